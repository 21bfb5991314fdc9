theorem gX2_init_0 {Γ : Gm} {d : Nat} {σ : AH} {Q : Oc → AH → Prop} {v0 : Nat} (h : 1 ≤ d ∧ ∀ (q2 : Nat) (σ3 : AH), q2 = lo Γ + hc σ → σ3 = mk σ q2 22 12 → hs σ3 v0 = some (2, 3) ∧ ∀ σ6 : AH, σ6 = setR σ3 v0 0 (some q2) → ∀ (q10 : Nat) (σ11 : AH), q10 = lo Γ + hc σ6 → σ11 = mk σ6 q10 22 64 → hs σ11 v0 = some (2, 3) ∧ ∀ σ14 : AH, σ14 = setR σ11 v0 1 (some q10) → ∀ (q18 : Nat) (σ19 : AH), q18 = lo Γ + hc σ14 → σ19 = mk σ14 q18 22 64 → hs σ19 v0 = some (2, 3) ∧ ∀ σ22 : AH, σ22 = setR σ19 v0 2 (some q18) → Q (.inl none) σ22) : EV Γ MX2_init d 0 [some (.ref v0)] [] σ Q := by
  refine EV.aload_n 1 rfl 0 rfl rfl dX2_init_0 ?_
  obtain ⟨z1, h⟩ := h
  refine EV.objInit 4 rfl oi_X2_3 z1 (Nat.le_of_ble_eq_true rfl) dX2_init_1 ?_
  refine EV.aload_n 5 rfl 0 rfl rfl dX2_init_4 ?_
  refine EV.bipush 7 rfl dX2_init_5 (v := 12) (by decide) ?_
  refine EV.newI 9 rfl (n := 12) ac_int dX2_init_7 (by decide) (Nat.le_of_ble_eq_true rfl) (EV.nq (fun q2 σ3 eq2 eσ3 => ?_))
  have h := h q2 σ3 eq2 eσ3
  have w4 : hs σ3 q2 = some (22, 12) := by rw [eσ3]; exact up_same _ _ _
  obtain ⟨w5, h⟩ := h
  refine EV.putFR 12 rfl rfl ff_X2_9 rfl (by decide) dX2_init_9 w5 (EV.nm (fun σ6 e7 => ?_))
  have h := h σ6 e7
  have w8 := tr_hs (hs_setR_of e7) w4
  have w9 := tr_hs (hs_setR_of e7) w5
  refine EV.aload_n 13 rfl 0 rfl rfl dX2_init_12 ?_
  refine EV.bipush 15 rfl dX2_init_13 (v := 64) (by decide) ?_
  refine EV.newI 17 rfl (n := 64) ac_int dX2_init_15 (by decide) (Nat.le_of_ble_eq_true rfl) (EV.nq (fun q10 σ11 eq10 eσ11 => ?_))
  have h := h q10 σ11 eq10 eσ11
  have w12 : hs σ11 q10 = some (22, 64) := by rw [eσ11]; exact up_same _ _ _
  obtain ⟨w13, h⟩ := h
  refine EV.putFR 20 rfl rfl ff_X2_15 rfl (by decide) dX2_init_17 w13 (EV.nm (fun σ14 e15 => ?_))
  have h := h σ14 e15
  have w16 := tr_hs (hs_setR_of e15) w12
  have w17 := tr_hs (hs_setR_of e15) w13
  refine EV.aload_n 21 rfl 0 rfl rfl dX2_init_20 ?_
  refine EV.bipush 23 rfl dX2_init_21 (v := 64) (by decide) ?_
  refine EV.newI 25 rfl (n := 64) ac_int dX2_init_23 (by decide) (Nat.le_of_ble_eq_true rfl) (EV.nq (fun q18 σ19 eq18 eσ19 => ?_))
  have h := h q18 σ19 eq18 eσ19
  have w20 : hs σ19 q18 = some (22, 64) := by rw [eσ19]; exact up_same _ _ _
  obtain ⟨w21, h⟩ := h
  refine EV.putFR 28 rfl rfl ff_X2_18 rfl (by decide) dX2_init_25 w21 (EV.nm (fun σ22 e23 => ?_))
  have h := h σ22 e23
  have w24 := tr_hs (hs_setR_of e23) w20
  have w25 := tr_hs (hs_setR_of e23) w21
  exact EV.vret rfl dX2_init_28 h
theorem eX2_init {Γ : Gm} {d : Nat} {σ : AH} {Q : Oc → AH → Prop} {v0 : Nat} (h : 1 ≤ d ∧ ∀ (q2 : Nat) (σ3 : AH), q2 = lo Γ + hc σ → σ3 = mk σ q2 22 12 → hs σ3 v0 = some (2, 3) ∧ ∀ σ6 : AH, σ6 = setR σ3 v0 0 (some q2) → ∀ (q10 : Nat) (σ11 : AH), q10 = lo Γ + hc σ6 → σ11 = mk σ6 q10 22 64 → hs σ11 v0 = some (2, 3) ∧ ∀ σ14 : AH, σ14 = setR σ11 v0 1 (some q10) → ∀ (q18 : Nat) (σ19 : AH), q18 = lo Γ + hc σ14 → σ19 = mk σ14 q18 22 64 → hs σ19 v0 = some (2, 3) ∧ ∀ σ22 : AH, σ22 = setR σ19 v0 2 (some q18) → Q (.inl none) σ22) : RUN Γ d MX2_init [.ref v0] σ Q :=
  EV.enter [some (.ref v0)] rfl (by decide +kernel) (Nat.le_of_ble_eq_true rfl) rfl (gX2_init_0 h)
theorem gX4_init_0 {Γ : Gm} {d : Nat} {σ : AH} {Q : Oc → AH → Prop} {v0 : Nat} {v1 : Nat} {v2 : Int32} {v3 : Int32} (h : 1 ≤ d ∧ hs σ v0 = some (4, 3) ∧ ∀ σ3 : AH, σ3 = setR σ v0 0 (some v1) → ∀ σ6 : AH, σ6 = setI σ3 v0 1 v2 → ∀ σ9 : AH, σ9 = setI σ6 v0 2 v3 → Q (.inl none) σ9) : EV Γ MX4_init d 0 [some (.ref v0), some (.ref v1), some (.int v2), some (.int v3)] [] σ Q := by
  refine EV.aload_n 1 rfl 0 rfl rfl dX4_init_0 ?_
  obtain ⟨z1, h⟩ := h
  refine EV.objInit 4 rfl oi_X4_1 z1 (Nat.le_of_ble_eq_true rfl) dX4_init_1 ?_
  refine EV.aload_n 5 rfl 0 rfl rfl dX4_init_4 ?_
  refine EV.aload_n 6 rfl 1 rfl rfl dX4_init_5 ?_
  obtain ⟨w2, h⟩ := h
  refine EV.putFR 9 rfl rfl ff_X4_7 rfl (by decide) dX4_init_6 w2 (EV.nm (fun σ3 e4 => ?_))
  have h := h σ3 e4
  have w5 := tr_hs (hs_setR_of e4) w2
  refine EV.aload_n 10 rfl 0 rfl rfl dX4_init_9 ?_
  refine EV.iload_n 11 rfl 2 rfl rfl dX4_init_10 ?_
  refine EV.putFI 14 rfl rfl ff_X4_13 rfl (by decide) dX4_init_11 w5 (EV.nm (fun σ6 e7 => ?_))
  have h := h σ6 e7
  have w8 := tr_hs (hs_setI_of e7) w5
  refine EV.aload_n 15 rfl 0 rfl rfl dX4_init_14 ?_
  refine EV.iload_n 16 rfl 3 rfl rfl dX4_init_15 ?_
  refine EV.putFI 19 rfl rfl ff_X4_17 rfl (by decide) dX4_init_16 w8 (EV.nm (fun σ9 e10 => ?_))
  have h := h σ9 e10
  have w11 := tr_hs (hs_setI_of e10) w8
  exact EV.vret rfl dX4_init_19 h
theorem eX4_init {Γ : Gm} {d : Nat} {σ : AH} {Q : Oc → AH → Prop} {v0 : Nat} {v1 : Nat} {v2 : Int32} {v3 : Int32} (h : 1 ≤ d ∧ hs σ v0 = some (4, 3) ∧ ∀ σ3 : AH, σ3 = setR σ v0 0 (some v1) → ∀ σ6 : AH, σ6 = setI σ3 v0 1 v2 → ∀ σ9 : AH, σ9 = setI σ6 v0 2 v3 → Q (.inl none) σ9) : RUN Γ d MX4_init [.ref v0, .ref v1, .int v2, .int v3] σ Q :=
  EV.enter [some (.ref v0), some (.ref v1), some (.int v2), some (.int v3)] rfl (by decide +kernel) (Nat.le_of_ble_eq_true rfl) rfl (gX4_init_0 h)
theorem gX7_has_0 {Γ : Gm} {d : Nat} {σ : AH} {Q : Oc → AH → Prop} {v0 : Nat} {v1 : Int32} (h : ((v1 < 0 → Q (.inl (some (.int 0))) σ) ∧ (¬ v1 < 0 → ((4096 ≤ v1 → Q (.inl (some (.int 0))) σ) ∧ (¬ 4096 ≤ v1 → ∃ n4 : Nat, hs σ v0 = some (23, n4) ∧ ∃ j5 : Nat, IX (v1 / 64) n4 j5 ∧ (((lg_cmp ((Int64.toUInt64 (gj σ v0 j5) >>> ((Int32.toInt64 (v1 - v1 / 64 * 64)).toUInt64 &&& Int64.toUInt64 63)).toInt64 &&& 1) 0) = 0 → Q (.inl (some (.int 0))) σ) ∧ (¬ (lg_cmp ((Int64.toUInt64 (gj σ v0 j5) >>> ((Int32.toInt64 (v1 - v1 / 64 * 64)).toUInt64 &&& Int64.toUInt64 63)).toInt64 &&& 1) 0) = 0 → Q (.inl (some (.int 1))) σ))))))) : EV Γ MX7_has d 0 [some (.ref v0), some (.int v1)] [] σ Q := by
  refine EV.iload_n 1 rfl 1 rfl rfl dX7_has_0 ?_
  refine EV.if_lt 4 33 rfl (by decide) dX7_has_1 (fun c1 => ?_) (fun c1 => ?_)
  · have h := h.1 c1
    refine EV.iconst 34 rfl dX7_has_33 (v := 0) (by decide) ?_
    exact EV.zret rfl rfl dX7_has_34 h
  · have h := h.2 c1
    refine EV.iload_n 5 rfl 1 rfl rfl dX7_has_4 ?_
    refine EV.sipush 8 rfl dX7_has_5 (v := 4096) (by decide) ?_
    refine EV.icmp_ge 11 33 rfl (by decide) dX7_has_8 (fun c2 => ?_) (fun c2 => ?_)
    · have h := h.1 c2
      refine EV.iconst 34 rfl dX7_has_33 (v := 0) (by decide) ?_
      exact EV.zret rfl rfl dX7_has_34 h
    · have h := h.2 c2
      refine EV.aload_n 12 rfl 0 rfl rfl dX7_has_11 ?_
      refine EV.iload_n 13 rfl 1 rfl rfl dX7_has_12 ?_
      refine EV.bipush 15 rfl dX7_has_13 (v := 64) (by decide) ?_
      refine EV.idiv 16 rfl dX7_has_15 (by decide) ?_
      obtain ⟨n4, w3, h⟩ := h
      obtain ⟨j5, x6, h⟩ := h
      refine EV.lald 17 rfl dX7_has_16 w3 x6 ?_
      refine EV.iload_n 18 rfl 1 rfl rfl dX7_has_17 ?_
      refine EV.bipush 20 rfl dX7_has_18 (v := 64) (by decide) ?_
      refine EV.irem 21 rfl dX7_has_20 (by decide) ?_
      refine EV.lushr 22 rfl dX7_has_21 ?_
      refine EV.lconst 23 rfl dX7_has_22 (v := 1) (by decide) ?_
      refine EV.land 24 rfl dX7_has_23 ?_
      refine EV.lconst 25 rfl dX7_has_24 (v := 0) (by decide) ?_
      refine EV.lcmp 26 rfl dX7_has_25 ?_
      refine EV.if_eq 29 33 rfl (by decide) dX7_has_26 (fun c7 => ?_) (fun c7 => ?_)
      · have h := h.1 c7
        refine EV.iconst 34 rfl dX7_has_33 (v := 0) (by decide) ?_
        exact EV.zret rfl rfl dX7_has_34 h
      · have h := h.2 c7
        refine EV.iconst 30 rfl dX7_has_29 (v := 1) (by decide) ?_
        refine EV.goto 34 (by decide) dX7_has_30 ?_
        exact EV.zret rfl rfl dX7_has_34 h
theorem eX7_has {Γ : Gm} {d : Nat} {σ : AH} {Q : Oc → AH → Prop} {v0 : Nat} {v1 : Int32} (h : ((v1 < 0 → Q (.inl (some (.int 0))) σ) ∧ (¬ v1 < 0 → ((4096 ≤ v1 → Q (.inl (some (.int 0))) σ) ∧ (¬ 4096 ≤ v1 → ∃ n4 : Nat, hs σ v0 = some (23, n4) ∧ ∃ j5 : Nat, IX (v1 / 64) n4 j5 ∧ (((lg_cmp ((Int64.toUInt64 (gj σ v0 j5) >>> ((Int32.toInt64 (v1 - v1 / 64 * 64)).toUInt64 &&& Int64.toUInt64 63)).toInt64 &&& 1) 0) = 0 → Q (.inl (some (.int 0))) σ) ∧ (¬ (lg_cmp ((Int64.toUInt64 (gj σ v0 j5) >>> ((Int32.toInt64 (v1 - v1 / 64 * 64)).toUInt64 &&& Int64.toUInt64 63)).toInt64 &&& 1) 0) = 0 → Q (.inl (some (.int 1))) σ))))))) : RUN Γ d MX7_has [.ref v0, .int v1] σ Q :=
  EV.enter [some (.ref v0), some (.int v1)] rfl (by decide +kernel) (Nat.le_of_ble_eq_true rfl) rfl (gX7_has_0 h)
theorem gX7_put_0 {Γ : Gm} {d : Nat} {σ : AH} {Q : Oc → AH → Prop} {v0 : Nat} {v1 : Int32} (h : ((v1 < 0 → Q (.inl none) σ) ∧ (¬ v1 < 0 → ((4096 ≤ v1 → Q (.inl none) σ) ∧ (¬ 4096 ≤ v1 → ∃ n4 : Nat, hs σ v0 = some (23, n4) ∧ ∃ j5 : Nat, IX (v1 / 64) n4 j5 ∧ ∀ σ7 : AH, σ7 = setJ σ v0 j5 ((gj σ v0 j5) ||| ((1 : Int64) <<< (Int32.toInt64 (v1 - v1 / 64 * 64) &&& 63))) → Q (.inl none) σ7))))) : EV Γ MX7_put d 0 [some (.ref v0), some (.int v1)] [] σ Q := by
  refine EV.iload_n 1 rfl 1 rfl rfl dX7_put_0 ?_
  refine EV.if_lt 4 26 rfl (by decide) dX7_put_1 (fun c1 => ?_) (fun c1 => ?_)
  · have h := h.1 c1
    exact EV.vret rfl dX7_put_26 h
  · have h := h.2 c1
    refine EV.iload_n 5 rfl 1 rfl rfl dX7_put_4 ?_
    refine EV.sipush 8 rfl dX7_put_5 (v := 4096) (by decide) ?_
    refine EV.icmp_ge 11 26 rfl (by decide) dX7_put_8 (fun c2 => ?_) (fun c2 => ?_)
    · have h := h.1 c2
      exact EV.vret rfl dX7_put_26 h
    · have h := h.2 c2
      refine EV.aload_n 12 rfl 0 rfl rfl dX7_put_11 ?_
      refine EV.iload_n 13 rfl 1 rfl rfl dX7_put_12 ?_
      refine EV.bipush 15 rfl dX7_put_13 (v := 64) (by decide) ?_
      refine EV.idiv 16 rfl dX7_put_15 (by decide) ?_
      refine EV.dup2 17 rfl dX7_put_16 rfl rfl ?_
      obtain ⟨n4, w3, h⟩ := h
      obtain ⟨j5, x6, h⟩ := h
      refine EV.lald 18 rfl dX7_put_17 w3 x6 ?_
      refine EV.lconst 19 rfl dX7_put_18 (v := 1) (by decide) ?_
      refine EV.iload_n 20 rfl 1 rfl rfl dX7_put_19 ?_
      refine EV.bipush 22 rfl dX7_put_20 (v := 64) (by decide) ?_
      refine EV.irem 23 rfl dX7_put_22 (by decide) ?_
      refine EV.lshl 24 rfl dX7_put_23 ?_
      refine EV.lor 25 rfl dX7_put_24 ?_
      refine EV.last 26 rfl dX7_put_25 w3 x6 (EV.nm (fun σ7 e8 => ?_))
      have h := h σ7 e8
      have w9 := tr_hs (hs_setJ_of e8) w3
      exact EV.vret rfl dX7_put_26 h
theorem eX7_put {Γ : Gm} {d : Nat} {σ : AH} {Q : Oc → AH → Prop} {v0 : Nat} {v1 : Int32} (h : ((v1 < 0 → Q (.inl none) σ) ∧ (¬ v1 < 0 → ((4096 ≤ v1 → Q (.inl none) σ) ∧ (¬ 4096 ≤ v1 → ∃ n4 : Nat, hs σ v0 = some (23, n4) ∧ ∃ j5 : Nat, IX (v1 / 64) n4 j5 ∧ ∀ σ7 : AH, σ7 = setJ σ v0 j5 ((gj σ v0 j5) ||| ((1 : Int64) <<< (Int32.toInt64 (v1 - v1 / 64 * 64) &&& 63))) → Q (.inl none) σ7))))) : RUN Γ d MX7_put [.ref v0, .int v1] σ Q :=
  EV.enter [some (.ref v0), some (.int v1)] rfl (by decide +kernel) (Nat.le_of_ble_eq_true rfl) rfl (gX7_put_0 h)
theorem gX7_remove_0 {Γ : Gm} {d : Nat} {σ : AH} {Q : Oc → AH → Prop} {v0 : Nat} {v1 : Int32} (h : ((v1 < 0 → Q (.inl none) σ) ∧ (¬ v1 < 0 → ((4096 ≤ v1 → Q (.inl none) σ) ∧ (¬ 4096 ≤ v1 → ∃ n4 : Nat, hs σ v0 = some (23, n4) ∧ ∃ j5 : Nat, IX (v1 / 64) n4 j5 ∧ ∀ σ7 : AH, σ7 = setJ σ v0 j5 ((gj σ v0 j5) &&& (((1 : Int64) <<< (Int32.toInt64 (v1 - v1 / 64 * 64) &&& 63)) ^^^ (-1))) → Q (.inl none) σ7))))) : EV Γ MX7_remove d 0 [some (.ref v0), some (.int v1)] [] σ Q := by
  refine EV.iload_n 1 rfl 1 rfl rfl dX7_remove_0 ?_
  refine EV.if_lt 4 30 rfl (by decide) dX7_remove_1 (fun c1 => ?_) (fun c1 => ?_)
  · have h := h.1 c1
    exact EV.vret rfl dX7_remove_30 h
  · have h := h.2 c1
    refine EV.iload_n 5 rfl 1 rfl rfl dX7_remove_4 ?_
    refine EV.sipush 8 rfl dX7_remove_5 (v := 4096) (by decide) ?_
    refine EV.icmp_ge 11 30 rfl (by decide) dX7_remove_8 (fun c2 => ?_) (fun c2 => ?_)
    · have h := h.1 c2
      exact EV.vret rfl dX7_remove_30 h
    · have h := h.2 c2
      refine EV.aload_n 12 rfl 0 rfl rfl dX7_remove_11 ?_
      refine EV.iload_n 13 rfl 1 rfl rfl dX7_remove_12 ?_
      refine EV.bipush 15 rfl dX7_remove_13 (v := 64) (by decide) ?_
      refine EV.idiv 16 rfl dX7_remove_15 (by decide) ?_
      refine EV.dup2 17 rfl dX7_remove_16 rfl rfl ?_
      obtain ⟨n4, w3, h⟩ := h
      obtain ⟨j5, x6, h⟩ := h
      refine EV.lald 18 rfl dX7_remove_17 w3 x6 ?_
      refine EV.lconst 19 rfl dX7_remove_18 (v := 1) (by decide) ?_
      refine EV.iload_n 20 rfl 1 rfl rfl dX7_remove_19 ?_
      refine EV.bipush 22 rfl dX7_remove_20 (v := 64) (by decide) ?_
      refine EV.irem 23 rfl dX7_remove_22 (by decide) ?_
      refine EV.lshl 24 rfl dX7_remove_23 ?_
      refine EV.ldc2 27 rfl k_X7_9 dX7_remove_24 ?_
      refine EV.lxor 28 rfl dX7_remove_27 ?_
      refine EV.land 29 rfl dX7_remove_28 ?_
      refine EV.last 30 rfl dX7_remove_29 w3 x6 (EV.nm (fun σ7 e8 => ?_))
      have h := h σ7 e8
      have w9 := tr_hs (hs_setJ_of e8) w3
      exact EV.vret rfl dX7_remove_30 h
theorem eX7_remove {Γ : Gm} {d : Nat} {σ : AH} {Q : Oc → AH → Prop} {v0 : Nat} {v1 : Int32} (h : ((v1 < 0 → Q (.inl none) σ) ∧ (¬ v1 < 0 → ((4096 ≤ v1 → Q (.inl none) σ) ∧ (¬ 4096 ≤ v1 → ∃ n4 : Nat, hs σ v0 = some (23, n4) ∧ ∃ j5 : Nat, IX (v1 / 64) n4 j5 ∧ ∀ σ7 : AH, σ7 = setJ σ v0 j5 ((gj σ v0 j5) &&& (((1 : Int64) <<< (Int32.toInt64 (v1 - v1 / 64 * 64) &&& 63)) ^^^ (-1))) → Q (.inl none) σ7))))) : RUN Γ d MX7_remove [.ref v0, .int v1] σ Q :=
  EV.enter [some (.ref v0), some (.int v1)] rfl (by decide +kernel) (Nat.le_of_ble_eq_true rfl) rfl (gX7_remove_0 h)
theorem gX7_copy_0 {Γ : Gm} {d : Nat} {σ : AH} {Q : Oc → AH → Prop} {v0 : Nat} {v1 : Nat} (h : ∃ n2 : Nat, hs σ v0 = some (23, n2) ∧ ∃ n4 : Nat, hs σ v1 = some (23, n4) ∧ 2 ≤ d ∧ ∃ p6 p7 p8 : Nat, Int32.toInt 0 = (p6 : Int) ∧ Int32.toInt 0 = (p7 : Int) ∧ Int32.toInt 64 = (p8 : Int) ∧ p6 + p8 ≤ n2 ∧ p7 + p8 ≤ n4 ∧ ∀ σ14 : AH, σ14 = rowJ σ v1 (va_cpy (gj σ v0) (gj σ v1) p6 p7 p8) → Q (.inl none) σ14) : EV Γ MX7_copy d 0 [some (.ref v0), some (.ref v1)] [] σ Q := by
  refine EV.aload_n 1 rfl 0 rfl rfl dX7_copy_0 ?_
  refine EV.iconst 2 rfl dX7_copy_1 (v := 0) (by decide) ?_
  refine EV.aload_n 3 rfl 1 rfl rfl dX7_copy_2 ?_
  refine EV.iconst 4 rfl dX7_copy_3 (v := 0) (by decide) ?_
  refine EV.bipush 6 rfl dX7_copy_4 (v := 64) (by decide) ?_
  obtain ⟨n2, w1, h⟩ := h
  obtain ⟨n4, w3, h⟩ := h
  obtain ⟨z5, p6, p7, p8, z9, z10, z11, z12, z13, h⟩ := h
  refine EV.acopyJ 9 rfl ac_X7_11 z5 (Nat.le_of_ble_eq_true rfl) dX7_copy_6 w1 w3 z9 z10 z11 z12 z13 (EV.nm (fun σ14 e15 => ?_))
  have h := h σ14 e15
  have w16 := tr_hs (hs_rowJ_of e15) w1
  have w17 := tr_hs (hs_rowJ_of e15) w3
  exact EV.vret rfl dX7_copy_9 h
theorem eX7_copy {Γ : Gm} {d : Nat} {σ : AH} {Q : Oc → AH → Prop} {v0 : Nat} {v1 : Nat} (h : ∃ n2 : Nat, hs σ v0 = some (23, n2) ∧ ∃ n4 : Nat, hs σ v1 = some (23, n4) ∧ 2 ≤ d ∧ ∃ p6 p7 p8 : Nat, Int32.toInt 0 = (p6 : Int) ∧ Int32.toInt 0 = (p7 : Int) ∧ Int32.toInt 64 = (p8 : Int) ∧ p6 + p8 ≤ n2 ∧ p7 + p8 ≤ n4 ∧ ∀ σ14 : AH, σ14 = rowJ σ v1 (va_cpy (gj σ v0) (gj σ v1) p6 p7 p8) → Q (.inl none) σ14) : RUN Γ d MX7_copy [.ref v0, .ref v1] σ Q :=
  EV.enter [some (.ref v0), some (.ref v1)] rfl (by decide +kernel) (Nat.le_of_ble_eq_true rfl) rfl (gX7_copy_0 h)
theorem gX7_size_0 {Γ : Gm} {d : Nat} {σ : AH} {Q : Oc → AH → Prop} {v0 : Nat} (h : EV Γ MX7_size d 4 [some (.ref v0), some (.int 0), some (.int 0)] [] σ Q) : EV Γ MX7_size d 0 [some (.ref v0), none, none] [] σ Q := by
  refine EV.iconst 1 rfl dX7_size_0 (v := 0) (by decide) ?_
  refine EV.istore_n 2 rfl 1 [some (.ref v0), some (.int 0), none] rfl (by decide) rfl dX7_size_1 ?_
  refine EV.iconst 3 rfl dX7_size_2 (v := 0) (by decide) ?_
  refine EV.istore_n 4 rfl 2 [some (.ref v0), some (.int 0), some (.int 0)] rfl (by decide) rfl dX7_size_3 ?_
  exact h
theorem eX7_size {Γ : Gm} {d : Nat} {σ : AH} {Q : Oc → AH → Prop} {v0 : Nat} (h : EV Γ MX7_size d 4 [some (.ref v0), some (.int 0), some (.int 0)] [] σ Q) : RUN Γ d MX7_size [.ref v0] σ Q :=
  EV.enter [some (.ref v0), none, none] rfl (by decide +kernel) (Nat.le_of_ble_eq_true rfl) rfl (gX7_size_0 h)
theorem gX7_size_4 {Γ : Gm} {d : Nat} {σ : AH} {Q : Oc → AH → Prop} {v0 : Nat} {v1 : Int32} {v2 : Int32} (h : ((64 ≤ v2 → Q (.inl (some (.int v1))) σ) ∧ (¬ 64 ≤ v2 → ∃ n3 : Nat, hs σ v0 = some (23, n3) ∧ ∃ j4 : Nat, IX v2 n3 j4 ∧ CI Γ d MJ13_bitCount_95d88 [.long (gj σ v0 j4)] σ (fun r7 σ6 => EV Γ MX7_size d 4 [some (.ref v0), some (.int (v1 + r7)), some (.int (v2 + 1))] [] σ6 Q) (fun _ _ => False)))) : EV Γ MX7_size d 4 [some (.ref v0), some (.int v1), some (.int v2)] [] σ Q := by
  refine EV.iload_n 5 rfl 2 rfl rfl dX7_size_4 ?_
  refine EV.bipush 7 rfl dX7_size_5 (v := 64) (by decide) ?_
  refine EV.icmp_ge 10 25 rfl (by decide) dX7_size_7 (fun c1 => ?_) (fun c1 => ?_)
  · have h := h.1 c1
    refine EV.iload_n 26 rfl 1 rfl rfl dX7_size_25 ?_
    exact EV.iret rfl dX7_size_26 h
  · have h := h.2 c1
    refine EV.iload_n 11 rfl 1 rfl rfl dX7_size_10 ?_
    refine EV.aload_n 12 rfl 0 rfl rfl dX7_size_11 ?_
    refine EV.iload_n 13 rfl 2 rfl rfl dX7_size_12 ?_
    obtain ⟨n3, w2, h⟩ := h
    obtain ⟨j4, x5, h⟩ := h
    refine EV.lald 14 rfl dX7_size_13 w2 x5 ?_
    refine EV.cS rfl lk_X7_17 rfl (vs := [.long (gj σ v0 j4)]) (st := [.int v1]) rfl rfl (Nat.le_of_ble_eq_true rfl) dX7_size_14 h (fun v σ6 h => ?_)
    obtain ⟨r7, rfl, h⟩ := h
    show EV Γ MX7_size d 17 [some (.ref v0), some (.int v1), some (.int v2)] [.int r7, .int v1] σ6 Q
    refine EV.iadd 18 rfl dX7_size_17 ?_
    refine EV.istore_n 19 rfl 1 [some (.ref v0), some (.int (v1 + r7)), some (.int v2)] rfl (by decide) rfl dX7_size_18 ?_
    refine EV.iinc 22 rfl [some (.ref v0), some (.int (v1 + r7)), some (.int (v2 + 1))] (v := 1) (by decide) (by decide) rfl rfl dX7_size_19 ?_
    refine EV.goto 4 (by decide) dX7_size_22 ?_
    exact h
theorem gX7_isInside_0 {Γ : Gm} {d : Nat} {σ : AH} {Q : Oc → AH → Prop} {v0 : Nat} {v1 : Nat} (h : EV Γ MX7_isInside d 2 [some (.ref v0), some (.ref v1), some (.int 0)] [] σ Q) : EV Γ MX7_isInside d 0 [some (.ref v0), some (.ref v1), none] [] σ Q := by
  refine EV.iconst 1 rfl dX7_isInside_0 (v := 0) (by decide) ?_
  refine EV.istore_n 2 rfl 2 [some (.ref v0), some (.ref v1), some (.int 0)] rfl (by decide) rfl dX7_isInside_1 ?_
  exact h
theorem eX7_isInside {Γ : Gm} {d : Nat} {σ : AH} {Q : Oc → AH → Prop} {v0 : Nat} {v1 : Nat} (h : EV Γ MX7_isInside d 2 [some (.ref v0), some (.ref v1), some (.int 0)] [] σ Q) : RUN Γ d MX7_isInside [.ref v0, .ref v1] σ Q :=
  EV.enter [some (.ref v0), some (.ref v1), none] rfl (by decide +kernel) (Nat.le_of_ble_eq_true rfl) rfl (gX7_isInside_0 h)
theorem gX7_isInside_2 {Γ : Gm} {d : Nat} {σ : AH} {Q : Oc → AH → Prop} {v0 : Nat} {v1 : Nat} {v2 : Int32} (h : ((64 ≤ v2 → Q (.inl (some (.int 1))) σ) ∧ (¬ 64 ≤ v2 → ∃ n3 : Nat, hs σ v0 = some (23, n3) ∧ ∃ j4 : Nat, IX v2 n3 j4 ∧ ∃ n7 : Nat, hs σ v1 = some (23, n7) ∧ ∃ j8 : Nat, IX v2 n7 j8 ∧ (((lg_cmp ((gj σ v0 j4) &&& ((gj σ v1 j8) ^^^ (-1))) 0) = 0 → EV Γ MX7_isInside d 2 [some (.ref v0), some (.ref v1), some (.int (v2 + 1))] [] σ Q) ∧ (¬ (lg_cmp ((gj σ v0 j4) &&& ((gj σ v1 j8) ^^^ (-1))) 0) = 0 → Q (.inl (some (.int 0))) σ))))) : EV Γ MX7_isInside d 2 [some (.ref v0), some (.ref v1), some (.int v2)] [] σ Q := by
  refine EV.iload_n 3 rfl 2 rfl rfl dX7_isInside_2 ?_
  refine EV.bipush 5 rfl dX7_isInside_3 (v := 64) (by decide) ?_
  refine EV.icmp_ge 8 32 rfl (by decide) dX7_isInside_5 (fun c1 => ?_) (fun c1 => ?_)
  · have h := h.1 c1
    refine EV.iconst 33 rfl dX7_isInside_32 (v := 1) (by decide) ?_
    exact EV.zret rfl rfl dX7_isInside_33 h
  · have h := h.2 c1
    refine EV.aload_n 9 rfl 0 rfl rfl dX7_isInside_8 ?_
    refine EV.iload_n 10 rfl 2 rfl rfl dX7_isInside_9 ?_
    obtain ⟨n3, w2, h⟩ := h
    obtain ⟨j4, x5, h⟩ := h
    refine EV.lald 11 rfl dX7_isInside_10 w2 x5 ?_
    refine EV.aload_n 12 rfl 1 rfl rfl dX7_isInside_11 ?_
    refine EV.iload_n 13 rfl 2 rfl rfl dX7_isInside_12 ?_
    obtain ⟨n7, w6, h⟩ := h
    obtain ⟨j8, x9, h⟩ := h
    refine EV.lald 14 rfl dX7_isInside_13 w6 x9 ?_
    refine EV.ldc2 17 rfl k_X7_9 dX7_isInside_14 ?_
    refine EV.lxor 18 rfl dX7_isInside_17 ?_
    refine EV.land 19 rfl dX7_isInside_18 ?_
    refine EV.lconst 20 rfl dX7_isInside_19 (v := 0) (by decide) ?_
    refine EV.lcmp 21 rfl dX7_isInside_20 ?_
    refine EV.if_eq 24 26 rfl (by decide) dX7_isInside_21 (fun c10 => ?_) (fun c10 => ?_)
    · have h := h.1 c10
      refine EV.iinc 29 rfl [some (.ref v0), some (.ref v1), some (.int (v2 + 1))] (v := 1) (by decide) (by decide) rfl rfl dX7_isInside_26 ?_
      refine EV.goto 2 (by decide) dX7_isInside_29 ?_
      exact h
    · have h := h.2 c10
      refine EV.iconst 25 rfl dX7_isInside_24 (v := 0) (by decide) ?_
      exact EV.zret rfl rfl dX7_isInside_25 h
theorem gX7_span_0 {Γ : Gm} {d : Nat} {σ : AH} {Q : Oc → AH → Prop} {v0 : Nat} (h : EV Γ MX7_span d 5 [some (.ref v0), some (.int 0), some (.int 63)] [] σ Q) : EV Γ MX7_span d 0 [some (.ref v0), none, none] [] σ Q := by
  refine EV.iconst 1 rfl dX7_span_0 (v := 0) (by decide) ?_
  refine EV.istore_n 2 rfl 1 [some (.ref v0), some (.int 0), none] rfl (by decide) rfl dX7_span_1 ?_
  refine EV.bipush 4 rfl dX7_span_2 (v := 63) (by decide) ?_
  refine EV.istore_n 5 rfl 2 [some (.ref v0), some (.int 0), some (.int 63)] rfl (by decide) rfl dX7_span_4 ?_
  exact h
theorem eX7_span {Γ : Gm} {d : Nat} {σ : AH} {Q : Oc → AH → Prop} {v0 : Nat} (h : EV Γ MX7_span d 5 [some (.ref v0), some (.int 0), some (.int 63)] [] σ Q) : RUN Γ d MX7_span [.ref v0] σ Q :=
  EV.enter [some (.ref v0), none, none] rfl (by decide +kernel) (Nat.le_of_ble_eq_true rfl) rfl (gX7_span_0 h)
theorem gX7_span_5 {Γ : Gm} {d : Nat} {σ : AH} {Q : Oc → AH → Prop} {v0 : Nat} {v1 : Int32} {v2 : Int32} (h : ((v2 < 0 → EV Γ MX7_span d 46 [none, some (.int v1), some (.int 1)] [] σ Q) ∧ (¬ v2 < 0 → ((v1 ≠ 0 → EV Γ MX7_span d 46 [none, some (.int v1), some (.int 1)] [] σ Q) ∧ (v1 = 0 → ∃ n4 : Nat, hs σ v0 = some (23, n4) ∧ ∃ j5 : Nat, IX v2 n4 j5 ∧ (((lg_cmp (gj σ v0 j5) 0) = 0 → EV Γ MX7_span d 5 [some (.ref v0), some (.int v1), some (.int (v2 + (-1)))] [] σ Q) ∧ (¬ (lg_cmp (gj σ v0 j5) 0) = 0 → CI Γ d MJ13_numberOfLeadingZeros_95d88 [.long (gj σ v0 j5)] σ (fun r9 σ8 => EV Γ MX7_span d 5 [some (.ref v0), some (.int ((((v2 * 64) + 64) - 1) - r9)), some (.int (v2 + (-1)))] [] σ8 Q) (fun _ _ => False)))))))) : EV Γ MX7_span d 5 [some (.ref v0), some (.int v1), some (.int v2)] [] σ Q := by
  refine EV.iload_n 6 rfl 2 rfl rfl dX7_span_5 ?_
  refine EV.if_lt 9 44 rfl (by decide) dX7_span_6 (fun c1 => ?_) (fun c1 => ?_)
  · have h := h.1 c1
    refine EV.iconst 45 rfl dX7_span_44 (v := 1) (by decide) ?_
    refine EV.istore_n 46 rfl 2 [some (.ref v0), some (.int v1), some (.int 1)] rfl (by decide) rfl dX7_span_45 ?_
    refine EV.mask [false, true, true] (L' := [none, some (.int v1), some (.int 1)]) rfl ?_
    exact h
  · have h := h.2 c1
    refine EV.iload_n 10 rfl 1 rfl rfl dX7_span_9 ?_
    refine EV.if_ne 13 44 rfl (by decide) dX7_span_10 (fun c2 => ?_) (fun c2 => ?_)
    · have h := h.1 c2
      refine EV.iconst 45 rfl dX7_span_44 (v := 1) (by decide) ?_
      refine EV.istore_n 46 rfl 2 [some (.ref v0), some (.int v1), some (.int 1)] rfl (by decide) rfl dX7_span_45 ?_
      refine EV.mask [false, true, true] (L' := [none, some (.int v1), some (.int 1)]) rfl ?_
      exact h
    · have h := h.2 c2
      refine EV.aload_n 14 rfl 0 rfl rfl dX7_span_13 ?_
      refine EV.iload_n 15 rfl 2 rfl rfl dX7_span_14 ?_
      obtain ⟨n4, w3, h⟩ := h
      obtain ⟨j5, x6, h⟩ := h
      refine EV.lald 16 rfl dX7_span_15 w3 x6 ?_
      refine EV.lconst 17 rfl dX7_span_16 (v := 0) (by decide) ?_
      refine EV.lcmp 18 rfl dX7_span_17 ?_
      refine EV.if_eq 21 38 rfl (by decide) dX7_span_18 (fun c7 => ?_) (fun c7 => ?_)
      · have h := h.1 c7
        refine EV.iinc 41 rfl [some (.ref v0), some (.int v1), some (.int (v2 + (-1)))] (v := (-1)) (by decide) (by decide) rfl rfl dX7_span_38 ?_
        refine EV.goto 5 (by decide) dX7_span_41 ?_
        exact h
      · have h := h.2 c7
        refine EV.iload_n 22 rfl 2 rfl rfl dX7_span_21 ?_
        refine EV.bipush 24 rfl dX7_span_22 (v := 64) (by decide) ?_
        refine EV.imul 25 rfl dX7_span_24 ?_
        refine EV.bipush 27 rfl dX7_span_25 (v := 64) (by decide) ?_
        refine EV.iadd 28 rfl dX7_span_27 ?_
        refine EV.iconst 29 rfl dX7_span_28 (v := 1) (by decide) ?_
        refine EV.isub 30 rfl dX7_span_29 ?_
        refine EV.aload_n 31 rfl 0 rfl rfl dX7_span_30 ?_
        refine EV.iload_n 32 rfl 2 rfl rfl dX7_span_31 ?_
        refine EV.lald 33 rfl dX7_span_32 w3 x6 ?_
        refine EV.cS rfl lk_X7_23 rfl (vs := [.long (gj σ v0 j5)]) (st := [.int (((v2 * 64) + 64) - 1)]) rfl rfl (Nat.le_of_ble_eq_true rfl) dX7_span_33 h (fun v σ8 h => ?_)
        obtain ⟨r9, rfl, h⟩ := h
        show EV Γ MX7_span d 36 [some (.ref v0), some (.int v1), some (.int v2)] [.int r9, .int (((v2 * 64) + 64) - 1)] σ8 Q
        refine EV.isub 37 rfl dX7_span_36 ?_
        refine EV.istore_n 38 rfl 1 [some (.ref v0), some (.int ((((v2 * 64) + 64) - 1) - r9)), some (.int v2)] rfl (by decide) rfl dX7_span_37 ?_
        refine EV.iinc 41 rfl [some (.ref v0), some (.int ((((v2 * 64) + 64) - 1) - r9)), some (.int (v2 + (-1)))] (v := (-1)) (by decide) (by decide) rfl rfl dX7_span_38 ?_
        refine EV.goto 5 (by decide) dX7_span_41 ?_
        exact h
theorem gX7_span_46 {Γ : Gm} {d : Nat} {σ : AH} {Q : Oc → AH → Prop} {v1 : Int32} {v2 : Int32} (h : ((v1 < v2 → Q (.inl (some (.int v2))) σ) ∧ (¬ v1 < v2 → ((4096 ≤ v2 → Q (.inl (some (.int v2))) σ) ∧ (¬ 4096 ≤ v2 → EV Γ MX7_span d 46 [none, some (.int v1), some (.int (v2 * 2))] [] σ Q))))) : EV Γ MX7_span d 46 [none, some (.int v1), some (.int v2)] [] σ Q := by
  refine EV.iload_n 47 rfl 2 rfl rfl dX7_span_46 ?_
  refine EV.iload_n 48 rfl 1 rfl rfl dX7_span_47 ?_
  refine EV.icmp_gt 51 65 rfl (by decide) dX7_span_48 (fun c1 => ?_) (fun c1 => ?_)
  · have h := h.1 c1
    refine EV.iload_n 66 rfl 2 rfl rfl dX7_span_65 ?_
    exact EV.iret rfl dX7_span_66 h
  · have h := h.2 c1
    refine EV.iload_n 52 rfl 2 rfl rfl dX7_span_51 ?_
    refine EV.sipush 55 rfl dX7_span_52 (v := 4096) (by decide) ?_
    refine EV.icmp_ge 58 65 rfl (by decide) dX7_span_55 (fun c2 => ?_) (fun c2 => ?_)
    · have h := h.1 c2
      refine EV.iload_n 66 rfl 2 rfl rfl dX7_span_65 ?_
      exact EV.iret rfl dX7_span_66 h
    · have h := h.2 c2
      refine EV.iload_n 59 rfl 2 rfl rfl dX7_span_58 ?_
      refine EV.iconst 60 rfl dX7_span_59 (v := 2) (by decide) ?_
      refine EV.imul 61 rfl dX7_span_60 ?_
      refine EV.istore_n 62 rfl 2 [none, some (.int v1), some (.int (v2 * 2))] rfl (by decide) rfl dX7_span_61 ?_
      refine EV.goto 46 (by decide) dX7_span_62 ?_
      exact h
theorem gX7_list_0 {Γ : Gm} {d : Nat} {σ : AH} {Q : Oc → AH → Prop} {v0 : Nat} {v1 : Nat} (h : EV Γ MX7_list d 4 [some (.ref v0), some (.ref v1), some (.int 0), some (.int 0), none, none, none] [] σ Q) : EV Γ MX7_list d 0 [some (.ref v0), some (.ref v1), none, none, none, none, none] [] σ Q := by
  refine EV.iconst 1 rfl dX7_list_0 (v := 0) (by decide) ?_
  refine EV.istore_n 2 rfl 2 [some (.ref v0), some (.ref v1), some (.int 0), none, none, none, none] rfl (by decide) rfl dX7_list_1 ?_
  refine EV.iconst 3 rfl dX7_list_2 (v := 0) (by decide) ?_
  refine EV.istore_n 4 rfl 3 [some (.ref v0), some (.ref v1), some (.int 0), some (.int 0), none, none, none] rfl (by decide) rfl dX7_list_3 ?_
  exact h
theorem eX7_list {Γ : Gm} {d : Nat} {σ : AH} {Q : Oc → AH → Prop} {v0 : Nat} {v1 : Nat} (h : EV Γ MX7_list d 4 [some (.ref v0), some (.ref v1), some (.int 0), some (.int 0), none, none, none] [] σ Q) : RUN Γ d MX7_list [.ref v0, .ref v1] σ Q :=
  EV.enter [some (.ref v0), some (.ref v1), none, none, none, none, none] rfl (by decide +kernel) (Nat.le_of_ble_eq_true rfl) rfl (gX7_list_0 h)
theorem gX7_list_4 {Γ : Gm} {d : Nat} {σ : AH} {Q : Oc → AH → Prop} {v0 : Nat} {v1 : Nat} {v2 : Int32} {v3 : Int32} (h : ((64 ≤ v3 → Q (.inl (some (.int v2))) σ) ∧ (¬ 64 ≤ v3 → ∃ n3 : Nat, hs σ v0 = some (23, n3) ∧ ∃ j4 : Nat, IX v3 n3 j4 ∧ EV Γ MX7_list d 18 [some (.ref v0), some (.ref v1), some (.int v2), some (.int v3), some (.long (gj σ v0 j4)), none, some (.int 0)] [] σ Q))) : EV Γ MX7_list d 4 [some (.ref v0), some (.ref v1), some (.int v2), some (.int v3), none, none, none] [] σ Q := by
  refine EV.iload_n 5 rfl 3 rfl rfl dX7_list_4 ?_
  refine EV.bipush 7 rfl dX7_list_5 (v := 64) (by decide) ?_
  refine EV.icmp_ge 10 75 rfl (by decide) dX7_list_7 (fun c1 => ?_) (fun c1 => ?_)
  · have h := h.1 c1
    refine EV.iload_n 76 rfl 2 rfl rfl dX7_list_75 ?_
    exact EV.iret rfl dX7_list_76 h
  · have h := h.2 c1
    refine EV.aload_n 11 rfl 0 rfl rfl dX7_list_10 ?_
    refine EV.iload_n 12 rfl 3 rfl rfl dX7_list_11 ?_
    obtain ⟨n3, w2, h⟩ := h
    obtain ⟨j4, x5, h⟩ := h
    refine EV.lald 13 rfl dX7_list_12 w2 x5 ?_
    refine EV.lstore 15 rfl [some (.ref v0), some (.ref v1), some (.int v2), some (.int v3), some (.long (gj σ v0 j4)), none, none] (by decide) rfl dX7_list_13 ?_
    refine EV.iconst 16 rfl dX7_list_15 (v := 0) (by decide) ?_
    refine EV.istore 18 rfl [some (.ref v0), some (.ref v1), some (.int v2), some (.int v3), some (.long (gj σ v0 j4)), none, some (.int 0)] (by decide) rfl dX7_list_16 ?_
    exact h
theorem gX7_list_18 {Γ : Gm} {d : Nat} {σ : AH} {Q : Oc → AH → Prop} {v0 : Nat} {v1 : Nat} {v2 : Int32} {v3 : Int32} {v4 : Int64} {v6 : Int32} (h : ((64 ≤ v6 → EV Γ MX7_list d 4 [some (.ref v0), some (.ref v1), some (.int v2), some (.int (v3 + 1)), none, none, none] [] σ Q) ∧ (¬ 64 ≤ v6 → (((lg_cmp v4 0) = 0 → EV Γ MX7_list d 4 [some (.ref v0), some (.ref v1), some (.int v2), some (.int (v3 + 1)), none, none, none] [] σ Q) ∧ (¬ (lg_cmp v4 0) = 0 → ∃ n4 : Nat, hs σ v1 = some (22, n4) ∧ (((nI n4) ≤ v2 → EV Γ MX7_list d 54 [some (.ref v0), some (.ref v1), some (.int v2), some (.int v3), some (.long v4), none, some (.int v6)] [] σ Q) ∧ (¬ (nI n4) ≤ v2 → CI Γ d MJ13_numberOfTrailingZeros_95d88 [.long v4] σ (fun r7 σ6 => ∃ n9 : Nat, hs σ6 v1 = some (22, n9) ∧ ∃ j10 : Nat, IX v2 n9 j10 ∧ ∀ σ12 : AH, σ12 = setI σ6 v1 j10 ((v3 * 64) + r7) → EV Γ MX7_list d 54 [some (.ref v0), some (.ref v1), some (.int (v2 + 1)), some (.int v3), some (.long v4), none, some (.int v6)] [] σ12 Q) (fun _ _ => False)))))))) : EV Γ MX7_list d 18 [some (.ref v0), some (.ref v1), some (.int v2), some (.int v3), some (.long v4), none, some (.int v6)] [] σ Q := by
  refine EV.iload 20 rfl rfl dX7_list_18 ?_
  refine EV.bipush 22 rfl dX7_list_20 (v := 64) (by decide) ?_
  refine EV.icmp_ge 25 69 rfl (by decide) dX7_list_22 (fun c1 => ?_) (fun c1 => ?_)
  · have h := h.1 c1
    refine EV.iinc 72 rfl [some (.ref v0), some (.ref v1), some (.int v2), some (.int (v3 + 1)), some (.long v4), none, some (.int v6)] (v := 1) (by decide) (by decide) rfl rfl dX7_list_69 ?_
    refine EV.goto 4 (by decide) dX7_list_72 ?_
    refine EV.mask [true, true, true, true, false, false, false] (L' := [some (.ref v0), some (.ref v1), some (.int v2), some (.int (v3 + 1)), none, none, none]) rfl ?_
    exact h
  · have h := h.2 c1
    refine EV.lload 27 rfl rfl dX7_list_25 ?_
    refine EV.lconst 28 rfl dX7_list_27 (v := 0) (by decide) ?_
    refine EV.lcmp 29 rfl dX7_list_28 ?_
    refine EV.if_eq 32 69 rfl (by decide) dX7_list_29 (fun c2 => ?_) (fun c2 => ?_)
    · have h := h.1 c2
      refine EV.iinc 72 rfl [some (.ref v0), some (.ref v1), some (.int v2), some (.int (v3 + 1)), some (.long v4), none, some (.int v6)] (v := 1) (by decide) (by decide) rfl rfl dX7_list_69 ?_
      refine EV.goto 4 (by decide) dX7_list_72 ?_
      refine EV.mask [true, true, true, true, false, false, false] (L' := [some (.ref v0), some (.ref v1), some (.int v2), some (.int (v3 + 1)), none, none, none]) rfl ?_
      exact h
    · have h := h.2 c2
      refine EV.iload_n 33 rfl 2 rfl rfl dX7_list_32 ?_
      refine EV.aload_n 34 rfl 1 rfl rfl dX7_list_33 ?_
      obtain ⟨n4, w3, h⟩ := h
      refine EV.alenI 35 rfl dX7_list_34 w3 ?_
      refine EV.icmp_ge 38 54 rfl (by decide) dX7_list_35 (fun c5 => ?_) (fun c5 => ?_)
      · have h := h.1 c5
        exact h
      · have h := h.2 c5
        refine EV.aload_n 39 rfl 1 rfl rfl dX7_list_38 ?_
        refine EV.iload_n 40 rfl 2 rfl rfl dX7_list_39 ?_
        refine EV.iload_n 41 rfl 3 rfl rfl dX7_list_40 ?_
        refine EV.bipush 43 rfl dX7_list_41 (v := 64) (by decide) ?_
        refine EV.imul 44 rfl dX7_list_43 ?_
        refine EV.lload 46 rfl rfl dX7_list_44 ?_
        refine EV.cS rfl lk_X7_26 rfl (vs := [.long v4]) (st := [.int (v3 * 64), .int v2, .ref v1]) rfl rfl (Nat.le_of_ble_eq_true rfl) dX7_list_46 h (fun v σ6 h => ?_)
        obtain ⟨r7, rfl, h⟩ := h
        show EV Γ MX7_list d 49 [some (.ref v0), some (.ref v1), some (.int v2), some (.int v3), some (.long v4), none, some (.int v6)] [.int r7, .int (v3 * 64), .int v2, .ref v1] σ6 Q
        refine EV.iadd 50 rfl dX7_list_49 ?_
        obtain ⟨n9, w8, h⟩ := h
        obtain ⟨j10, x11, h⟩ := h
        refine EV.iast 51 rfl dX7_list_50 w8 x11 (EV.nm (fun σ12 e13 => ?_))
        have h := h σ12 e13
        have w14 := tr_hs (hs_setI_of e13) w8
        refine EV.iinc 54 rfl [some (.ref v0), some (.ref v1), some (.int (v2 + 1)), some (.int v3), some (.long v4), none, some (.int v6)] (v := 1) (by decide) (by decide) rfl rfl dX7_list_51 ?_
        exact h
theorem gX7_list_54 {Γ : Gm} {d : Nat} {σ : AH} {Q : Oc → AH → Prop} {v0 : Nat} {v1 : Nat} {v2 : Int32} {v3 : Int32} {v4 : Int64} {v6 : Int32} (h : EV Γ MX7_list d 18 [some (.ref v0), some (.ref v1), some (.int v2), some (.int v3), some (.long (v4 &&& (v4 - 1))), none, some (.int (v6 + 1))] [] σ Q) : EV Γ MX7_list d 54 [some (.ref v0), some (.ref v1), some (.int v2), some (.int v3), some (.long v4), none, some (.int v6)] [] σ Q := by
  refine EV.lload 56 rfl rfl dX7_list_54 ?_
  refine EV.lload 58 rfl rfl dX7_list_56 ?_
  refine EV.lconst 59 rfl dX7_list_58 (v := 1) (by decide) ?_
  refine EV.lsub 60 rfl dX7_list_59 ?_
  refine EV.land 61 rfl dX7_list_60 ?_
  refine EV.lstore 63 rfl [some (.ref v0), some (.ref v1), some (.int v2), some (.int v3), some (.long (v4 &&& (v4 - 1))), none, some (.int v6)] (by decide) rfl dX7_list_61 ?_
  refine EV.iinc 66 rfl [some (.ref v0), some (.ref v1), some (.int v2), some (.int v3), some (.long (v4 &&& (v4 - 1))), none, some (.int (v6 + 1))] (v := 1) (by decide) (by decide) rfl rfl dX7_list_63 ?_
  refine EV.goto 18 (by decide) dX7_list_66 ?_
  exact h
theorem gX7_takeOut_0 {Γ : Gm} {d : Nat} {σ : AH} {Q : Oc → AH → Prop} {v0 : Nat} {v1 : Nat} {v2 : Int32} (h : ((6 ≤ v2 → EV Γ MX7_takeOut d 44 [some (.ref v0), some (.ref v1), some (.int v2), none, none] [] σ Q) ∧ (¬ 6 ≤ v2 → ((v2 < 0 → EV Γ MX7_takeOut d 44 [some (.ref v0), some (.ref v1), some (.int v2), none, none] [] σ Q) ∧ (¬ v2 < 0 → EV Γ MX7_takeOut d 12 [some (.ref v0), some (.ref v1), some (.int v2), some (.int 0), none] [] σ Q))))) : EV Γ MX7_takeOut d 0 [some (.ref v0), some (.ref v1), some (.int v2), none, none] [] σ Q := by
  refine EV.iload_n 1 rfl 2 rfl rfl dX7_takeOut_0 ?_
  refine EV.bipush 3 rfl dX7_takeOut_1 (v := 6) (by decide) ?_
  refine EV.icmp_ge 6 44 rfl (by decide) dX7_takeOut_3 (fun c1 => ?_) (fun c1 => ?_)
  · have h := h.1 c1
    exact h
  · have h := h.2 c1
    refine EV.iload_n 7 rfl 2 rfl rfl dX7_takeOut_6 ?_
    refine EV.if_lt 10 44 rfl (by decide) dX7_takeOut_7 (fun c2 => ?_) (fun c2 => ?_)
    · have h := h.1 c2
      exact h
    · have h := h.2 c2
      refine EV.iconst 11 rfl dX7_takeOut_10 (v := 0) (by decide) ?_
      refine EV.istore_n 12 rfl 3 [some (.ref v0), some (.ref v1), some (.int v2), some (.int 0), none] rfl (by decide) rfl dX7_takeOut_11 ?_
      exact h
theorem eX7_takeOut {Γ : Gm} {d : Nat} {σ : AH} {Q : Oc → AH → Prop} {v0 : Nat} {v1 : Nat} {v2 : Int32} (h : ((6 ≤ v2 → EV Γ MX7_takeOut d 44 [some (.ref v0), some (.ref v1), some (.int v2), none, none] [] σ Q) ∧ (¬ 6 ≤ v2 → ((v2 < 0 → EV Γ MX7_takeOut d 44 [some (.ref v0), some (.ref v1), some (.int v2), none, none] [] σ Q) ∧ (¬ v2 < 0 → EV Γ MX7_takeOut d 12 [some (.ref v0), some (.ref v1), some (.int v2), some (.int 0), none] [] σ Q))))) : RUN Γ d MX7_takeOut [.ref v0, .ref v1, .int v2] σ Q :=
  EV.enter [some (.ref v0), some (.ref v1), some (.int v2), none, none] rfl (by decide +kernel) (Nat.le_of_ble_eq_true rfl) rfl (gX7_takeOut_0 h)
theorem gX7_takeOut_12 {Γ : Gm} {d : Nat} {σ : AH} {Q : Oc → AH → Prop} {v0 : Nat} {v1 : Nat} {v2 : Int32} {v3 : Int32} (h : ((64 ≤ v3 → Q (.inl none) σ) ∧ (¬ 64 ≤ v3 → ∃ n3 : Nat, hs σ v1 = some (23, n3) ∧ ∃ j4 : Nat, IX v3 n3 j4 ∧ ∃ n7 : Nat, hs σ v0 = some (23, n7) ∧ ∃ j8 : Nat, IX v3 n7 j8 ∧ ∃ n11 : Nat, hs σ (wth Γ) = some (27, n11) ∧ ∃ j12 : Nat, IX v2 n11 j12 ∧ ∀ σ14 : AH, σ14 = setJ σ v1 j4 ((gj σ v1 j4) ||| (Int64.toUInt64 ((gj σ v0 j8) &&& (gj σ (wth Γ) j12)) >>> ((Int32.toInt64 ((1 : Int32) <<< (v2 &&& 31))).toUInt64 &&& Int64.toUInt64 63)).toInt64) → EV Γ MX7_takeOut d 12 [some (.ref v0), some (.ref v1), some (.int v2), some (.int (v3 + 1)), none] [] σ14 Q))) : EV Γ MX7_takeOut d 12 [some (.ref v0), some (.ref v1), some (.int v2), some (.int v3), none] [] σ Q := by
  refine EV.iload_n 13 rfl 3 rfl rfl dX7_takeOut_12 ?_
  refine EV.bipush 15 rfl dX7_takeOut_13 (v := 64) (by decide) ?_
  refine EV.icmp_ge 18 43 rfl (by decide) dX7_takeOut_15 (fun c1 => ?_) (fun c1 => ?_)
  · have h := h.1 c1
    exact EV.vret rfl dX7_takeOut_43 h
  · have h := h.2 c1
    refine EV.aload_n 19 rfl 1 rfl rfl dX7_takeOut_18 ?_
    refine EV.iload_n 20 rfl 3 rfl rfl dX7_takeOut_19 ?_
    refine EV.dup2 21 rfl dX7_takeOut_20 rfl rfl ?_
    obtain ⟨n3, w2, h⟩ := h
    obtain ⟨j4, x5, h⟩ := h
    refine EV.lald 22 rfl dX7_takeOut_21 w2 x5 ?_
    refine EV.aload_n 23 rfl 0 rfl rfl dX7_takeOut_22 ?_
    refine EV.iload_n 24 rfl 3 rfl rfl dX7_takeOut_23 ?_
    obtain ⟨n7, w6, h⟩ := h
    obtain ⟨j8, x9, h⟩ := h
    refine EV.lald 25 rfl dX7_takeOut_24 w6 x9 ?_
    refine EV.getW 28 rfl gs_X7_29 dX7_takeOut_25 ?_
    refine EV.iload_n 29 rfl 2 rfl rfl dX7_takeOut_28 ?_
    obtain ⟨n11, w10, h⟩ := h
    obtain ⟨j12, x13, h⟩ := h
    refine EV.laldW 30 rfl dX7_takeOut_29 w10 x13 ?_
    refine EV.land 31 rfl dX7_takeOut_30 ?_
    refine EV.iconst 32 rfl dX7_takeOut_31 (v := 1) (by decide) ?_
    refine EV.iload_n 33 rfl 2 rfl rfl dX7_takeOut_32 ?_
    refine EV.ishl 34 rfl dX7_takeOut_33 ?_
    refine EV.lushr 35 rfl dX7_takeOut_34 ?_
    refine EV.lor 36 rfl dX7_takeOut_35 ?_
    refine EV.last 37 rfl dX7_takeOut_36 w2 x5 (EV.nm (fun σ14 e15 => ?_))
    have h := h σ14 e15
    have w16 := tr_hs (hs_setJ_of e15) w2
    have w17 := tr_hs (hs_setJ_of e15) w6
    have w18 := tr_hs (hs_setJ_of e15) w10
    refine EV.iinc 40 rfl [some (.ref v0), some (.ref v1), some (.int v2), some (.int (v3 + 1)), none] (v := 1) (by decide) (by decide) rfl rfl dX7_takeOut_37 ?_
    refine EV.goto 12 (by decide) dX7_takeOut_40 ?_
    exact h
theorem gX7_takeOut_44 {Γ : Gm} {d : Nat} {σ : AH} {Q : Oc → AH → Prop} {v0 : Nat} {v1 : Nat} {v2 : Int32} (h : EV Γ MX7_takeOut d 54 [some (.ref v0), some (.ref v1), none, some (.int ((1 : Int32) <<< ((v2 - 6) &&& 31))), some (.int 0)] [] σ Q) : EV Γ MX7_takeOut d 44 [some (.ref v0), some (.ref v1), some (.int v2), none, none] [] σ Q := by
  refine EV.iconst 45 rfl dX7_takeOut_44 (v := 1) (by decide) ?_
  refine EV.iload_n 46 rfl 2 rfl rfl dX7_takeOut_45 ?_
  refine EV.bipush 48 rfl dX7_takeOut_46 (v := 6) (by decide) ?_
  refine EV.isub 49 rfl dX7_takeOut_48 ?_
  refine EV.ishl 50 rfl dX7_takeOut_49 ?_
  refine EV.istore_n 51 rfl 3 [some (.ref v0), some (.ref v1), some (.int v2), some (.int ((1 : Int32) <<< ((v2 - 6) &&& 31))), none] rfl (by decide) rfl dX7_takeOut_50 ?_
  refine EV.iconst 52 rfl dX7_takeOut_51 (v := 0) (by decide) ?_
  refine EV.istore 54 rfl [some (.ref v0), some (.ref v1), some (.int v2), some (.int ((1 : Int32) <<< ((v2 - 6) &&& 31))), some (.int 0)] (by decide) rfl dX7_takeOut_52 ?_
  refine EV.mask [true, true, false, true, true] (L' := [some (.ref v0), some (.ref v1), none, some (.int ((1 : Int32) <<< ((v2 - 6) &&& 31))), some (.int 0)]) rfl ?_
  exact h
theorem gX7_takeOut_54 {Γ : Gm} {d : Nat} {σ : AH} {Q : Oc → AH → Prop} {v0 : Nat} {v1 : Nat} {v3 : Int32} {v4 : Int32} (h : ((64 ≤ (v4 + v3) → Q (.inl none) σ) ∧ (¬ 64 ≤ (v4 + v3) → (((v4 &&& v3) ≠ 0 → EV Γ MX7_takeOut d 54 [some (.ref v0), some (.ref v1), none, some (.int v3), some (.int (v4 + 1))] [] σ Q) ∧ ((v4 &&& v3) = 0 → ∃ n4 : Nat, hs σ v1 = some (23, n4) ∧ ∃ j5 : Nat, IX v4 n4 j5 ∧ ∃ n8 : Nat, hs σ v0 = some (23, n8) ∧ ∃ j9 : Nat, IX (v4 + v3) n8 j9 ∧ ∀ σ11 : AH, σ11 = setJ σ v1 j5 ((gj σ v1 j5) ||| (gj σ v0 j9)) → EV Γ MX7_takeOut d 54 [some (.ref v0), some (.ref v1), none, some (.int v3), some (.int (v4 + 1))] [] σ11 Q))))) : EV Γ MX7_takeOut d 54 [some (.ref v0), some (.ref v1), none, some (.int v3), some (.int v4)] [] σ Q := by
  refine EV.iload 56 rfl rfl dX7_takeOut_54 ?_
  refine EV.iload_n 57 rfl 3 rfl rfl dX7_takeOut_56 ?_
  refine EV.iadd 58 rfl dX7_takeOut_57 ?_
  refine EV.bipush 60 rfl dX7_takeOut_58 (v := 64) (by decide) ?_
  refine EV.icmp_ge 63 89 rfl (by decide) dX7_takeOut_60 (fun c1 => ?_) (fun c1 => ?_)
  · have h := h.1 c1
    exact EV.vret rfl dX7_takeOut_89 h
  · have h := h.2 c1
    refine EV.iload 65 rfl rfl dX7_takeOut_63 ?_
    refine EV.iload_n 66 rfl 3 rfl rfl dX7_takeOut_65 ?_
    refine EV.iand 67 rfl dX7_takeOut_66 ?_
    refine EV.if_ne 70 83 rfl (by decide) dX7_takeOut_67 (fun c2 => ?_) (fun c2 => ?_)
    · have h := h.1 c2
      refine EV.iinc 86 rfl [some (.ref v0), some (.ref v1), none, some (.int v3), some (.int (v4 + 1))] (v := 1) (by decide) (by decide) rfl rfl dX7_takeOut_83 ?_
      refine EV.goto 54 (by decide) dX7_takeOut_86 ?_
      exact h
    · have h := h.2 c2
      refine EV.aload_n 71 rfl 1 rfl rfl dX7_takeOut_70 ?_
      refine EV.iload 73 rfl rfl dX7_takeOut_71 ?_
      refine EV.dup2 74 rfl dX7_takeOut_73 rfl rfl ?_
      obtain ⟨n4, w3, h⟩ := h
      obtain ⟨j5, x6, h⟩ := h
      refine EV.lald 75 rfl dX7_takeOut_74 w3 x6 ?_
      refine EV.aload_n 76 rfl 0 rfl rfl dX7_takeOut_75 ?_
      refine EV.iload 78 rfl rfl dX7_takeOut_76 ?_
      refine EV.iload_n 79 rfl 3 rfl rfl dX7_takeOut_78 ?_
      refine EV.iadd 80 rfl dX7_takeOut_79 ?_
      obtain ⟨n8, w7, h⟩ := h
      obtain ⟨j9, x10, h⟩ := h
      refine EV.lald 81 rfl dX7_takeOut_80 w7 x10 ?_
      refine EV.lor 82 rfl dX7_takeOut_81 ?_
      refine EV.last 83 rfl dX7_takeOut_82 w3 x6 (EV.nm (fun σ11 e12 => ?_))
      have h := h σ11 e12
      have w13 := tr_hs (hs_setJ_of e12) w3
      have w14 := tr_hs (hs_setJ_of e12) w7
      refine EV.iinc 86 rfl [some (.ref v0), some (.ref v1), none, some (.int v3), some (.int (v4 + 1))] (v := 1) (by decide) (by decide) rfl rfl dX7_takeOut_83 ?_
      refine EV.goto 54 (by decide) dX7_takeOut_86 ?_
      exact h
theorem gX7_putIn_0 {Γ : Gm} {d : Nat} {σ : AH} {Q : Oc → AH → Prop} {v0 : Nat} {v1 : Nat} {v2 : Int32} (h : ((6 ≤ v2 → EV Γ MX7_putIn d 48 [some (.ref v0), some (.ref v1), some (.int v2), none, none] [] σ Q) ∧ (¬ 6 ≤ v2 → ((v2 < 0 → EV Γ MX7_putIn d 48 [some (.ref v0), some (.ref v1), some (.int v2), none, none] [] σ Q) ∧ (¬ v2 < 0 → EV Γ MX7_putIn d 12 [some (.ref v0), some (.ref v1), some (.int v2), some (.int 0), none] [] σ Q))))) : EV Γ MX7_putIn d 0 [some (.ref v0), some (.ref v1), some (.int v2), none, none] [] σ Q := by
  refine EV.iload_n 1 rfl 2 rfl rfl dX7_putIn_0 ?_
  refine EV.bipush 3 rfl dX7_putIn_1 (v := 6) (by decide) ?_
  refine EV.icmp_ge 6 48 rfl (by decide) dX7_putIn_3 (fun c1 => ?_) (fun c1 => ?_)
  · have h := h.1 c1
    exact h
  · have h := h.2 c1
    refine EV.iload_n 7 rfl 2 rfl rfl dX7_putIn_6 ?_
    refine EV.if_lt 10 48 rfl (by decide) dX7_putIn_7 (fun c2 => ?_) (fun c2 => ?_)
    · have h := h.1 c2
      exact h
    · have h := h.2 c2
      refine EV.iconst 11 rfl dX7_putIn_10 (v := 0) (by decide) ?_
      refine EV.istore_n 12 rfl 3 [some (.ref v0), some (.ref v1), some (.int v2), some (.int 0), none] rfl (by decide) rfl dX7_putIn_11 ?_
      exact h
theorem eX7_putIn {Γ : Gm} {d : Nat} {σ : AH} {Q : Oc → AH → Prop} {v0 : Nat} {v1 : Nat} {v2 : Int32} (h : ((6 ≤ v2 → EV Γ MX7_putIn d 48 [some (.ref v0), some (.ref v1), some (.int v2), none, none] [] σ Q) ∧ (¬ 6 ≤ v2 → ((v2 < 0 → EV Γ MX7_putIn d 48 [some (.ref v0), some (.ref v1), some (.int v2), none, none] [] σ Q) ∧ (¬ v2 < 0 → EV Γ MX7_putIn d 12 [some (.ref v0), some (.ref v1), some (.int v2), some (.int 0), none] [] σ Q))))) : RUN Γ d MX7_putIn [.ref v0, .ref v1, .int v2] σ Q :=
  EV.enter [some (.ref v0), some (.ref v1), some (.int v2), none, none] rfl (by decide +kernel) (Nat.le_of_ble_eq_true rfl) rfl (gX7_putIn_0 h)
theorem gX7_putIn_12 {Γ : Gm} {d : Nat} {σ : AH} {Q : Oc → AH → Prop} {v0 : Nat} {v1 : Nat} {v2 : Int32} {v3 : Int32} (h : ((64 ≤ v3 → Q (.inl none) σ) ∧ (¬ 64 ≤ v3 → ∃ n3 : Nat, hs σ v1 = some (23, n3) ∧ ∃ j4 : Nat, IX v3 n3 j4 ∧ ∃ n7 : Nat, hs σ v0 = some (23, n7) ∧ ∃ j8 : Nat, IX v3 n7 j8 ∧ ∃ n11 : Nat, hs σ (wth Γ) = some (27, n11) ∧ ∃ j12 : Nat, IX v2 n11 j12 ∧ ∀ σ14 : AH, σ14 = setJ σ v1 j4 ((gj σ v1 j4) ||| (((gj σ v0 j8) &&& ((gj σ (wth Γ) j12) ^^^ (-1))) <<< (Int32.toInt64 ((1 : Int32) <<< (v2 &&& 31)) &&& 63))) → EV Γ MX7_putIn d 12 [some (.ref v0), some (.ref v1), some (.int v2), some (.int (v3 + 1)), none] [] σ14 Q))) : EV Γ MX7_putIn d 12 [some (.ref v0), some (.ref v1), some (.int v2), some (.int v3), none] [] σ Q := by
  refine EV.iload_n 13 rfl 3 rfl rfl dX7_putIn_12 ?_
  refine EV.bipush 15 rfl dX7_putIn_13 (v := 64) (by decide) ?_
  refine EV.icmp_ge 18 47 rfl (by decide) dX7_putIn_15 (fun c1 => ?_) (fun c1 => ?_)
  · have h := h.1 c1
    exact EV.vret rfl dX7_putIn_47 h
  · have h := h.2 c1
    refine EV.aload_n 19 rfl 1 rfl rfl dX7_putIn_18 ?_
    refine EV.iload_n 20 rfl 3 rfl rfl dX7_putIn_19 ?_
    refine EV.dup2 21 rfl dX7_putIn_20 rfl rfl ?_
    obtain ⟨n3, w2, h⟩ := h
    obtain ⟨j4, x5, h⟩ := h
    refine EV.lald 22 rfl dX7_putIn_21 w2 x5 ?_
    refine EV.aload_n 23 rfl 0 rfl rfl dX7_putIn_22 ?_
    refine EV.iload_n 24 rfl 3 rfl rfl dX7_putIn_23 ?_
    obtain ⟨n7, w6, h⟩ := h
    obtain ⟨j8, x9, h⟩ := h
    refine EV.lald 25 rfl dX7_putIn_24 w6 x9 ?_
    refine EV.getW 28 rfl gs_X7_29 dX7_putIn_25 ?_
    refine EV.iload_n 29 rfl 2 rfl rfl dX7_putIn_28 ?_
    obtain ⟨n11, w10, h⟩ := h
    obtain ⟨j12, x13, h⟩ := h
    refine EV.laldW 30 rfl dX7_putIn_29 w10 x13 ?_
    refine EV.ldc2 33 rfl k_X7_9 dX7_putIn_30 ?_
    refine EV.lxor 34 rfl dX7_putIn_33 ?_
    refine EV.land 35 rfl dX7_putIn_34 ?_
    refine EV.iconst 36 rfl dX7_putIn_35 (v := 1) (by decide) ?_
    refine EV.iload_n 37 rfl 2 rfl rfl dX7_putIn_36 ?_
    refine EV.ishl 38 rfl dX7_putIn_37 ?_
    refine EV.lshl 39 rfl dX7_putIn_38 ?_
    refine EV.lor 40 rfl dX7_putIn_39 ?_
    refine EV.last 41 rfl dX7_putIn_40 w2 x5 (EV.nm (fun σ14 e15 => ?_))
    have h := h σ14 e15
    have w16 := tr_hs (hs_setJ_of e15) w2
    have w17 := tr_hs (hs_setJ_of e15) w6
    have w18 := tr_hs (hs_setJ_of e15) w10
    refine EV.iinc 44 rfl [some (.ref v0), some (.ref v1), some (.int v2), some (.int (v3 + 1)), none] (v := 1) (by decide) (by decide) rfl rfl dX7_putIn_41 ?_
    refine EV.goto 12 (by decide) dX7_putIn_44 ?_
    exact h
theorem gX7_putIn_48 {Γ : Gm} {d : Nat} {σ : AH} {Q : Oc → AH → Prop} {v0 : Nat} {v1 : Nat} {v2 : Int32} (h : EV Γ MX7_putIn d 58 [some (.ref v0), some (.ref v1), none, some (.int ((1 : Int32) <<< ((v2 - 6) &&& 31))), some (.int 0)] [] σ Q) : EV Γ MX7_putIn d 48 [some (.ref v0), some (.ref v1), some (.int v2), none, none] [] σ Q := by
  refine EV.iconst 49 rfl dX7_putIn_48 (v := 1) (by decide) ?_
  refine EV.iload_n 50 rfl 2 rfl rfl dX7_putIn_49 ?_
  refine EV.bipush 52 rfl dX7_putIn_50 (v := 6) (by decide) ?_
  refine EV.isub 53 rfl dX7_putIn_52 ?_
  refine EV.ishl 54 rfl dX7_putIn_53 ?_
  refine EV.istore_n 55 rfl 3 [some (.ref v0), some (.ref v1), some (.int v2), some (.int ((1 : Int32) <<< ((v2 - 6) &&& 31))), none] rfl (by decide) rfl dX7_putIn_54 ?_
  refine EV.iconst 56 rfl dX7_putIn_55 (v := 0) (by decide) ?_
  refine EV.istore 58 rfl [some (.ref v0), some (.ref v1), some (.int v2), some (.int ((1 : Int32) <<< ((v2 - 6) &&& 31))), some (.int 0)] (by decide) rfl dX7_putIn_56 ?_
  refine EV.mask [true, true, false, true, true] (L' := [some (.ref v0), some (.ref v1), none, some (.int ((1 : Int32) <<< ((v2 - 6) &&& 31))), some (.int 0)]) rfl ?_
  exact h
theorem gX7_putIn_58 {Γ : Gm} {d : Nat} {σ : AH} {Q : Oc → AH → Prop} {v0 : Nat} {v1 : Nat} {v3 : Int32} {v4 : Int32} (h : ((64 ≤ (v4 + v3) → Q (.inl none) σ) ∧ (¬ 64 ≤ (v4 + v3) → (((v4 &&& v3) ≠ 0 → EV Γ MX7_putIn d 58 [some (.ref v0), some (.ref v1), none, some (.int v3), some (.int (v4 + 1))] [] σ Q) ∧ ((v4 &&& v3) = 0 → ∃ n4 : Nat, hs σ v1 = some (23, n4) ∧ ∃ j5 : Nat, IX (v4 + v3) n4 j5 ∧ ∃ n8 : Nat, hs σ v0 = some (23, n8) ∧ ∃ j9 : Nat, IX v4 n8 j9 ∧ ∀ σ11 : AH, σ11 = setJ σ v1 j5 ((gj σ v1 j5) ||| (gj σ v0 j9)) → EV Γ MX7_putIn d 58 [some (.ref v0), some (.ref v1), none, some (.int v3), some (.int (v4 + 1))] [] σ11 Q))))) : EV Γ MX7_putIn d 58 [some (.ref v0), some (.ref v1), none, some (.int v3), some (.int v4)] [] σ Q := by
  refine EV.iload 60 rfl rfl dX7_putIn_58 ?_
  refine EV.iload_n 61 rfl 3 rfl rfl dX7_putIn_60 ?_
  refine EV.iadd 62 rfl dX7_putIn_61 ?_
  refine EV.bipush 64 rfl dX7_putIn_62 (v := 64) (by decide) ?_
  refine EV.icmp_ge 67 93 rfl (by decide) dX7_putIn_64 (fun c1 => ?_) (fun c1 => ?_)
  · have h := h.1 c1
    exact EV.vret rfl dX7_putIn_93 h
  · have h := h.2 c1
    refine EV.iload 69 rfl rfl dX7_putIn_67 ?_
    refine EV.iload_n 70 rfl 3 rfl rfl dX7_putIn_69 ?_
    refine EV.iand 71 rfl dX7_putIn_70 ?_
    refine EV.if_ne 74 87 rfl (by decide) dX7_putIn_71 (fun c2 => ?_) (fun c2 => ?_)
    · have h := h.1 c2
      refine EV.iinc 90 rfl [some (.ref v0), some (.ref v1), none, some (.int v3), some (.int (v4 + 1))] (v := 1) (by decide) (by decide) rfl rfl dX7_putIn_87 ?_
      refine EV.goto 58 (by decide) dX7_putIn_90 ?_
      exact h
    · have h := h.2 c2
      refine EV.aload_n 75 rfl 1 rfl rfl dX7_putIn_74 ?_
      refine EV.iload 77 rfl rfl dX7_putIn_75 ?_
      refine EV.iload_n 78 rfl 3 rfl rfl dX7_putIn_77 ?_
      refine EV.iadd 79 rfl dX7_putIn_78 ?_
      refine EV.dup2 80 rfl dX7_putIn_79 rfl rfl ?_
      obtain ⟨n4, w3, h⟩ := h
      obtain ⟨j5, x6, h⟩ := h
      refine EV.lald 81 rfl dX7_putIn_80 w3 x6 ?_
      refine EV.aload_n 82 rfl 0 rfl rfl dX7_putIn_81 ?_
      refine EV.iload 84 rfl rfl dX7_putIn_82 ?_
      obtain ⟨n8, w7, h⟩ := h
      obtain ⟨j9, x10, h⟩ := h
      refine EV.lald 85 rfl dX7_putIn_84 w7 x10 ?_
      refine EV.lor 86 rfl dX7_putIn_85 ?_
      refine EV.last 87 rfl dX7_putIn_86 w3 x6 (EV.nm (fun σ11 e12 => ?_))
      have h := h σ11 e12
      have w13 := tr_hs (hs_setJ_of e12) w3
      have w14 := tr_hs (hs_setJ_of e12) w7
      refine EV.iinc 90 rfl [some (.ref v0), some (.ref v1), none, some (.int v3), some (.int (v4 + 1))] (v := 1) (by decide) (by decide) rfl rfl dX7_putIn_87 ?_
      refine EV.goto 58 (by decide) dX7_putIn_90 ?_
      exact h
theorem gX7_swap_0 {Γ : Gm} {d : Nat} {σ : AH} {Q : Oc → AH → Prop} {v0 : Nat} {v1 : Int32} (h : ((6 ≤ v1 → EV Γ MX7_swap d 56 [some (.ref v0), some (.int v1), none, none, none, none] [] σ Q) ∧ (¬ 6 ≤ v1 → ((v1 < 0 → EV Γ MX7_swap d 56 [some (.ref v0), some (.int v1), none, none, none, none] [] σ Q) ∧ (¬ v1 < 0 → EV Γ MX7_swap d 16 [some (.ref v0), some (.int v1), some (.int ((1 : Int32) <<< (v1 &&& 31))), some (.int 0), none, none] [] σ Q))))) : EV Γ MX7_swap d 0 [some (.ref v0), some (.int v1), none, none, none, none] [] σ Q := by
  refine EV.iload_n 1 rfl 1 rfl rfl dX7_swap_0 ?_
  refine EV.bipush 3 rfl dX7_swap_1 (v := 6) (by decide) ?_
  refine EV.icmp_ge 6 56 rfl (by decide) dX7_swap_3 (fun c1 => ?_) (fun c1 => ?_)
  · have h := h.1 c1
    exact h
  · have h := h.2 c1
    refine EV.iload_n 7 rfl 1 rfl rfl dX7_swap_6 ?_
    refine EV.if_lt 10 56 rfl (by decide) dX7_swap_7 (fun c2 => ?_) (fun c2 => ?_)
    · have h := h.1 c2
      exact h
    · have h := h.2 c2
      refine EV.iconst 11 rfl dX7_swap_10 (v := 1) (by decide) ?_
      refine EV.iload_n 12 rfl 1 rfl rfl dX7_swap_11 ?_
      refine EV.ishl 13 rfl dX7_swap_12 ?_
      refine EV.istore_n 14 rfl 2 [some (.ref v0), some (.int v1), some (.int ((1 : Int32) <<< (v1 &&& 31))), none, none, none] rfl (by decide) rfl dX7_swap_13 ?_
      refine EV.iconst 15 rfl dX7_swap_14 (v := 0) (by decide) ?_
      refine EV.istore_n 16 rfl 3 [some (.ref v0), some (.int v1), some (.int ((1 : Int32) <<< (v1 &&& 31))), some (.int 0), none, none] rfl (by decide) rfl dX7_swap_15 ?_
      exact h
theorem eX7_swap {Γ : Gm} {d : Nat} {σ : AH} {Q : Oc → AH → Prop} {v0 : Nat} {v1 : Int32} (h : ((6 ≤ v1 → EV Γ MX7_swap d 56 [some (.ref v0), some (.int v1), none, none, none, none] [] σ Q) ∧ (¬ 6 ≤ v1 → ((v1 < 0 → EV Γ MX7_swap d 56 [some (.ref v0), some (.int v1), none, none, none, none] [] σ Q) ∧ (¬ v1 < 0 → EV Γ MX7_swap d 16 [some (.ref v0), some (.int v1), some (.int ((1 : Int32) <<< (v1 &&& 31))), some (.int 0), none, none] [] σ Q))))) : RUN Γ d MX7_swap [.ref v0, .int v1] σ Q :=
  EV.enter [some (.ref v0), some (.int v1), none, none, none, none] rfl (by decide +kernel) (Nat.le_of_ble_eq_true rfl) rfl (gX7_swap_0 h)
theorem gX7_swap_16 {Γ : Gm} {d : Nat} {σ : AH} {Q : Oc → AH → Prop} {v0 : Nat} {v1 : Int32} {v2 : Int32} {v3 : Int32} (h : ((64 ≤ v3 → Q (.inl none) σ) ∧ (¬ 64 ≤ v3 → ∃ n3 : Nat, hs σ v0 = some (23, n3) ∧ ∃ j4 : Nat, IX v3 n3 j4 ∧ ∃ n7 : Nat, hs σ (wth Γ) = some (27, n7) ∧ ∃ j8 : Nat, IX v1 n7 j8 ∧ ∀ σ10 : AH, σ10 = setJ σ v0 j4 ((Int64.toUInt64 ((gj σ v0 j4) &&& (gj σ (wth Γ) j8)) >>> ((Int32.toInt64 v2).toUInt64 &&& Int64.toUInt64 63)).toInt64 ||| (((gj σ v0 j4) ^^^ ((gj σ v0 j4) &&& (gj σ (wth Γ) j8))) <<< (Int32.toInt64 v2 &&& 63))) → EV Γ MX7_swap d 16 [some (.ref v0), some (.int v1), some (.int v2), some (.int (v3 + 1)), none, none] [] σ10 Q))) : EV Γ MX7_swap d 16 [some (.ref v0), some (.int v1), some (.int v2), some (.int v3), none, none] [] σ Q := by
  refine EV.iload_n 17 rfl 3 rfl rfl dX7_swap_16 ?_
  refine EV.bipush 19 rfl dX7_swap_17 (v := 64) (by decide) ?_
  refine EV.icmp_ge 22 55 rfl (by decide) dX7_swap_19 (fun c1 => ?_) (fun c1 => ?_)
  · have h := h.1 c1
    exact EV.vret rfl dX7_swap_55 h
  · have h := h.2 c1
    refine EV.aload_n 23 rfl 0 rfl rfl dX7_swap_22 ?_
    refine EV.iload_n 24 rfl 3 rfl rfl dX7_swap_23 ?_
    obtain ⟨n3, w2, h⟩ := h
    obtain ⟨j4, x5, h⟩ := h
    refine EV.lald 25 rfl dX7_swap_24 w2 x5 ?_
    refine EV.getW 28 rfl gs_X7_29 dX7_swap_25 ?_
    refine EV.iload_n 29 rfl 1 rfl rfl dX7_swap_28 ?_
    obtain ⟨n7, w6, h⟩ := h
    obtain ⟨j8, x9, h⟩ := h
    refine EV.laldW 30 rfl dX7_swap_29 w6 x9 ?_
    refine EV.land 31 rfl dX7_swap_30 ?_
    refine EV.lstore 33 rfl [some (.ref v0), some (.int v1), some (.int v2), some (.int v3), some (.long ((gj σ v0 j4) &&& (gj σ (wth Γ) j8))), none] (by decide) rfl dX7_swap_31 ?_
    refine EV.aload_n 34 rfl 0 rfl rfl dX7_swap_33 ?_
    refine EV.iload_n 35 rfl 3 rfl rfl dX7_swap_34 ?_
    refine EV.lload 37 rfl rfl dX7_swap_35 ?_
    refine EV.iload_n 38 rfl 2 rfl rfl dX7_swap_37 ?_
    refine EV.lushr 39 rfl dX7_swap_38 ?_
    refine EV.aload_n 40 rfl 0 rfl rfl dX7_swap_39 ?_
    refine EV.iload_n 41 rfl 3 rfl rfl dX7_swap_40 ?_
    refine EV.lald 42 rfl dX7_swap_41 w2 x5 ?_
    refine EV.lload 44 rfl rfl dX7_swap_42 ?_
    refine EV.lxor 45 rfl dX7_swap_44 ?_
    refine EV.iload_n 46 rfl 2 rfl rfl dX7_swap_45 ?_
    refine EV.lshl 47 rfl dX7_swap_46 ?_
    refine EV.lor 48 rfl dX7_swap_47 ?_
    refine EV.last 49 rfl dX7_swap_48 w2 x5 (EV.nm (fun σ10 e11 => ?_))
    have h := h σ10 e11
    have w12 := tr_hs (hs_setJ_of e11) w2
    have w13 := tr_hs (hs_setJ_of e11) w6
    refine EV.iinc 52 rfl [some (.ref v0), some (.int v1), some (.int v2), some (.int (v3 + 1)), some (.long ((gj σ v0 j4) &&& (gj σ (wth Γ) j8))), none] (v := 1) (by decide) (by decide) rfl rfl dX7_swap_49 ?_
    refine EV.goto 16 (by decide) dX7_swap_52 ?_
    refine EV.mask [true, true, true, true, false, false] (L' := [some (.ref v0), some (.int v1), some (.int v2), some (.int (v3 + 1)), none, none]) rfl ?_
    exact h
theorem gX7_swap_56 {Γ : Gm} {d : Nat} {σ : AH} {Q : Oc → AH → Prop} {v0 : Nat} {v1 : Int32} (h : EV Γ MX7_swap d 65 [some (.ref v0), none, some (.int ((1 : Int32) <<< ((v1 - 6) &&& 31))), some (.int 0), none, none] [] σ Q) : EV Γ MX7_swap d 56 [some (.ref v0), some (.int v1), none, none, none, none] [] σ Q := by
  refine EV.iconst 57 rfl dX7_swap_56 (v := 1) (by decide) ?_
  refine EV.iload_n 58 rfl 1 rfl rfl dX7_swap_57 ?_
  refine EV.bipush 60 rfl dX7_swap_58 (v := 6) (by decide) ?_
  refine EV.isub 61 rfl dX7_swap_60 ?_
  refine EV.ishl 62 rfl dX7_swap_61 ?_
  refine EV.istore_n 63 rfl 2 [some (.ref v0), some (.int v1), some (.int ((1 : Int32) <<< ((v1 - 6) &&& 31))), none, none, none] rfl (by decide) rfl dX7_swap_62 ?_
  refine EV.iconst 64 rfl dX7_swap_63 (v := 0) (by decide) ?_
  refine EV.istore_n 65 rfl 3 [some (.ref v0), some (.int v1), some (.int ((1 : Int32) <<< ((v1 - 6) &&& 31))), some (.int 0), none, none] rfl (by decide) rfl dX7_swap_64 ?_
  refine EV.mask [true, false, true, true, false, false] (L' := [some (.ref v0), none, some (.int ((1 : Int32) <<< ((v1 - 6) &&& 31))), some (.int 0), none, none]) rfl ?_
  exact h
theorem gX7_swap_65 {Γ : Gm} {d : Nat} {σ : AH} {Q : Oc → AH → Prop} {v0 : Nat} {v2 : Int32} {v3 : Int32} (h : ((64 ≤ (v3 + v2) → Q (.inl none) σ) ∧ (¬ 64 ≤ (v3 + v2) → (((v3 &&& v2) ≠ 0 → EV Γ MX7_swap d 65 [some (.ref v0), none, some (.int v2), some (.int (v3 + 1)), none, none] [] σ Q) ∧ ((v3 &&& v2) = 0 → ∃ n4 : Nat, hs σ v0 = some (23, n4) ∧ ∃ j5 : Nat, IX (v3 + v2) n4 j5 ∧ ∃ j7 : Nat, IX v3 n4 j7 ∧ ∀ σ9 : AH, σ9 = setJ σ v0 j5 (gj σ v0 j7) → ∀ σ12 : AH, σ12 = setJ σ9 v0 j7 (gj σ v0 j5) → EV Γ MX7_swap d 65 [some (.ref v0), none, some (.int v2), some (.int (v3 + 1)), none, none] [] σ12 Q))))) : EV Γ MX7_swap d 65 [some (.ref v0), none, some (.int v2), some (.int v3), none, none] [] σ Q := by
  refine EV.iload_n 66 rfl 3 rfl rfl dX7_swap_65 ?_
  refine EV.iload_n 67 rfl 2 rfl rfl dX7_swap_66 ?_
  refine EV.iadd 68 rfl dX7_swap_67 ?_
  refine EV.bipush 70 rfl dX7_swap_68 (v := 64) (by decide) ?_
  refine EV.icmp_ge 73 105 rfl (by decide) dX7_swap_70 (fun c1 => ?_) (fun c1 => ?_)
  · have h := h.1 c1
    exact EV.vret rfl dX7_swap_105 h
  · have h := h.2 c1
    refine EV.iload_n 74 rfl 3 rfl rfl dX7_swap_73 ?_
    refine EV.iload_n 75 rfl 2 rfl rfl dX7_swap_74 ?_
    refine EV.iand 76 rfl dX7_swap_75 ?_
    refine EV.if_ne 79 99 rfl (by decide) dX7_swap_76 (fun c2 => ?_) (fun c2 => ?_)
    · have h := h.1 c2
      refine EV.iinc 102 rfl [some (.ref v0), none, some (.int v2), some (.int (v3 + 1)), none, none] (v := 1) (by decide) (by decide) rfl rfl dX7_swap_99 ?_
      refine EV.goto 65 (by decide) dX7_swap_102 ?_
      exact h
    · have h := h.2 c2
      refine EV.aload_n 80 rfl 0 rfl rfl dX7_swap_79 ?_
      refine EV.iload_n 81 rfl 3 rfl rfl dX7_swap_80 ?_
      refine EV.iload_n 82 rfl 2 rfl rfl dX7_swap_81 ?_
      refine EV.iadd 83 rfl dX7_swap_82 ?_
      obtain ⟨n4, w3, h⟩ := h
      obtain ⟨j5, x6, h⟩ := h
      refine EV.lald 84 rfl dX7_swap_83 w3 x6 ?_
      refine EV.lstore 86 rfl [some (.ref v0), none, some (.int v2), some (.int v3), some (.long (gj σ v0 j5)), none] (by decide) rfl dX7_swap_84 ?_
      refine EV.aload_n 87 rfl 0 rfl rfl dX7_swap_86 ?_
      refine EV.iload_n 88 rfl 3 rfl rfl dX7_swap_87 ?_
      refine EV.iload_n 89 rfl 2 rfl rfl dX7_swap_88 ?_
      refine EV.iadd 90 rfl dX7_swap_89 ?_
      refine EV.aload_n 91 rfl 0 rfl rfl dX7_swap_90 ?_
      refine EV.iload_n 92 rfl 3 rfl rfl dX7_swap_91 ?_
      obtain ⟨j7, x8, h⟩ := h
      refine EV.lald 93 rfl dX7_swap_92 w3 x8 ?_
      refine EV.last 94 rfl dX7_swap_93 w3 x6 (EV.nm (fun σ9 e10 => ?_))
      have h := h σ9 e10
      have w11 := tr_hs (hs_setJ_of e10) w3
      refine EV.aload_n 95 rfl 0 rfl rfl dX7_swap_94 ?_
      refine EV.iload_n 96 rfl 3 rfl rfl dX7_swap_95 ?_
      refine EV.lload 98 rfl rfl dX7_swap_96 ?_
      refine EV.last 99 rfl dX7_swap_98 w11 x8 (EV.nm (fun σ12 e13 => ?_))
      have h := h σ12 e13
      have w14 := tr_hs (hs_setJ_of e13) w11
      refine EV.iinc 102 rfl [some (.ref v0), none, some (.int v2), some (.int (v3 + 1)), some (.long (gj σ v0 j5)), none] (v := 1) (by decide) (by decide) rfl rfl dX7_swap_99 ?_
      refine EV.goto 65 (by decide) dX7_swap_102 ?_
      refine EV.mask [true, false, true, true, false, false] (L' := [some (.ref v0), none, some (.int v2), some (.int (v3 + 1)), none, none]) rfl ?_
      exact h
theorem gX7_lower_0 {Γ : Gm} {d : Nat} {σ : AH} {Q : Oc → AH → Prop} {v0 : Nat} (h : EV Γ MX7_lower d 2 [some (.ref v0), some (.int 0)] [] σ Q) : EV Γ MX7_lower d 0 [some (.ref v0), none] [] σ Q := by
  refine EV.iconst 1 rfl dX7_lower_0 (v := 0) (by decide) ?_
  refine EV.istore_n 2 rfl 1 [some (.ref v0), some (.int 0)] rfl (by decide) rfl dX7_lower_1 ?_
  exact h
theorem eX7_lower {Γ : Gm} {d : Nat} {σ : AH} {Q : Oc → AH → Prop} {v0 : Nat} (h : EV Γ MX7_lower d 2 [some (.ref v0), some (.int 0)] [] σ Q) : RUN Γ d MX7_lower [.ref v0] σ Q :=
  EV.enter [some (.ref v0), none] rfl (by decide +kernel) (Nat.le_of_ble_eq_true rfl) rfl (gX7_lower_0 h)
theorem gX7_lower_2 {Γ : Gm} {d : Nat} {σ : AH} {Q : Oc → AH → Prop} {v0 : Nat} {v1 : Int32} (h : ((12 ≤ v1 → Q (.inl none) σ) ∧ (¬ 12 ≤ v1 → CV Γ d MX7_takeOut [.ref v0, .ref v0, .int v1] σ (fun σ2 => EV Γ MX7_lower d 2 [some (.ref v0), some (.int (v1 + 1))] [] σ2 Q) (fun _ _ => False)))) : EV Γ MX7_lower d 2 [some (.ref v0), some (.int v1)] [] σ Q := by
  refine EV.iload_n 3 rfl 1 rfl rfl dX7_lower_2 ?_
  refine EV.bipush 5 rfl dX7_lower_3 (v := 12) (by decide) ?_
  refine EV.icmp_ge 8 20 rfl (by decide) dX7_lower_5 (fun c1 => ?_) (fun c1 => ?_)
  · have h := h.1 c1
    exact EV.vret rfl dX7_lower_20 h
  · have h := h.2 c1
    refine EV.aload_n 9 rfl 0 rfl rfl dX7_lower_8 ?_
    refine EV.aload_n 10 rfl 0 rfl rfl dX7_lower_9 ?_
    refine EV.iload_n 11 rfl 1 rfl rfl dX7_lower_10 ?_
    refine EV.cS rfl lk_X7_35 rfl (vs := [.ref v0, .ref v0, .int v1]) (st := []) rfl rfl (Nat.le_of_ble_eq_true rfl) dX7_lower_11 h (fun v σ2 h => ?_)
    obtain ⟨rfl, h⟩ := h
    show EV Γ MX7_lower d 14 [some (.ref v0), some (.int v1)] [] σ2 Q
    refine EV.iinc 17 rfl [some (.ref v0), some (.int (v1 + 1))] (v := 1) (by decide) (by decide) rfl rfl dX7_lower_14 ?_
    refine EV.goto 2 (by decide) dX7_lower_17 ?_
    exact h
theorem gX7_raise_0 {Γ : Gm} {d : Nat} {σ : AH} {Q : Oc → AH → Prop} {v0 : Nat} (h : EV Γ MX7_raise d 2 [some (.ref v0), some (.int 0)] [] σ Q) : EV Γ MX7_raise d 0 [some (.ref v0), none] [] σ Q := by
  refine EV.iconst 1 rfl dX7_raise_0 (v := 0) (by decide) ?_
  refine EV.istore_n 2 rfl 1 [some (.ref v0), some (.int 0)] rfl (by decide) rfl dX7_raise_1 ?_
  exact h
theorem eX7_raise {Γ : Gm} {d : Nat} {σ : AH} {Q : Oc → AH → Prop} {v0 : Nat} (h : EV Γ MX7_raise d 2 [some (.ref v0), some (.int 0)] [] σ Q) : RUN Γ d MX7_raise [.ref v0] σ Q :=
  EV.enter [some (.ref v0), none] rfl (by decide +kernel) (Nat.le_of_ble_eq_true rfl) rfl (gX7_raise_0 h)
theorem gX7_raise_2 {Γ : Gm} {d : Nat} {σ : AH} {Q : Oc → AH → Prop} {v0 : Nat} {v1 : Int32} (h : ((12 ≤ v1 → Q (.inl none) σ) ∧ (¬ 12 ≤ v1 → CV Γ d MX7_putIn [.ref v0, .ref v0, .int v1] σ (fun σ2 => EV Γ MX7_raise d 2 [some (.ref v0), some (.int (v1 + 1))] [] σ2 Q) (fun _ _ => False)))) : EV Γ MX7_raise d 2 [some (.ref v0), some (.int v1)] [] σ Q := by
  refine EV.iload_n 3 rfl 1 rfl rfl dX7_raise_2 ?_
  refine EV.bipush 5 rfl dX7_raise_3 (v := 12) (by decide) ?_
  refine EV.icmp_ge 8 20 rfl (by decide) dX7_raise_5 (fun c1 => ?_) (fun c1 => ?_)
  · have h := h.1 c1
    exact EV.vret rfl dX7_raise_20 h
  · have h := h.2 c1
    refine EV.aload_n 9 rfl 0 rfl rfl dX7_raise_8 ?_
    refine EV.aload_n 10 rfl 0 rfl rfl dX7_raise_9 ?_
    refine EV.iload_n 11 rfl 1 rfl rfl dX7_raise_10 ?_
    refine EV.cS rfl lk_X7_39 rfl (vs := [.ref v0, .ref v0, .int v1]) (st := []) rfl rfl (Nat.le_of_ble_eq_true rfl) dX7_raise_11 h (fun v σ2 h => ?_)
    obtain ⟨rfl, h⟩ := h
    show EV Γ MX7_raise d 14 [some (.ref v0), some (.int v1)] [] σ2 Q
    refine EV.iinc 17 rfl [some (.ref v0), some (.int (v1 + 1))] (v := 1) (by decide) (by decide) rfl rfl dX7_raise_14 ?_
    refine EV.goto 2 (by decide) dX7_raise_17 ?_
    exact h
theorem gJ6_numberOfLeadingZeros_0f7a4_0 {Γ : Gm} {d : Nat} {σ : AH} {Q : Oc → AH → Prop} {v0 : Int32} (h : ((0 < v0 → ((v0 < 65536 → EV Γ MJ6_numberOfLeadingZeros_0f7a4 d 33 [some (.int v0), some (.int 31)] [] σ Q) ∧ (¬ v0 < 65536 → EV Γ MJ6_numberOfLeadingZeros_0f7a4 d 33 [some (.int (v0.toUInt32 >>> (Int32.toUInt32 16 &&& Int32.toUInt32 31)).toInt32), some (.int (31 + (-16)))] [] σ Q))) ∧ (¬ 0 < v0 → ((v0 ≠ 0 → Q (.inl (some (.int 0))) σ) ∧ (v0 = 0 → Q (.inl (some (.int 32))) σ))))) : EV Γ MJ6_numberOfLeadingZeros_0f7a4 d 0 [some (.int v0), none] [] σ Q := by
  refine EV.iload_n 1 rfl 0 rfl rfl dJ6_numberOfLeadingZeros_0f7a4_0 ?_
  refine EV.if_gt 4 15 rfl (by decide) dJ6_numberOfLeadingZeros_0f7a4_1 (fun c1 => ?_) (fun c1 => ?_)
  · have h := h.1 c1
    refine EV.bipush 17 rfl dJ6_numberOfLeadingZeros_0f7a4_15 (v := 31) (by decide) ?_
    refine EV.istore_n 18 rfl 1 [some (.int v0), some (.int 31)] rfl (by decide) rfl dJ6_numberOfLeadingZeros_0f7a4_17 ?_
    refine EV.iload_n 19 rfl 0 rfl rfl dJ6_numberOfLeadingZeros_0f7a4_18 ?_
    refine EV.ldcw 22 rfl k_J6_264 dJ6_numberOfLeadingZeros_0f7a4_19 ?_
    refine EV.icmp_lt 25 33 rfl (by decide) dJ6_numberOfLeadingZeros_0f7a4_22 (fun c2 => ?_) (fun c2 => ?_)
    · have h := h.1 c2
      exact h
    · have h := h.2 c2
      refine EV.iinc 28 rfl [some (.int v0), some (.int (31 + (-16)))] (v := (-16)) (by decide) (by decide) rfl rfl dJ6_numberOfLeadingZeros_0f7a4_25 ?_
      refine EV.iload_n 29 rfl 0 rfl rfl dJ6_numberOfLeadingZeros_0f7a4_28 ?_
      refine EV.bipush 31 rfl dJ6_numberOfLeadingZeros_0f7a4_29 (v := 16) (by decide) ?_
      refine EV.iushr 32 rfl dJ6_numberOfLeadingZeros_0f7a4_31 ?_
      refine EV.istore_n 33 rfl 0 [some (.int (v0.toUInt32 >>> (Int32.toUInt32 16 &&& Int32.toUInt32 31)).toInt32), some (.int (31 + (-16)))] rfl (by decide) rfl dJ6_numberOfLeadingZeros_0f7a4_32 ?_
      exact h
  · have h := h.2 c1
    refine EV.iload_n 5 rfl 0 rfl rfl dJ6_numberOfLeadingZeros_0f7a4_4 ?_
    refine EV.if_ne 8 13 rfl (by decide) dJ6_numberOfLeadingZeros_0f7a4_5 (fun c3 => ?_) (fun c3 => ?_)
    · have h := h.1 c3
      refine EV.iconst 14 rfl dJ6_numberOfLeadingZeros_0f7a4_13 (v := 0) (by decide) ?_
      exact EV.iret rfl dJ6_numberOfLeadingZeros_0f7a4_14 h
    · have h := h.2 c3
      refine EV.bipush 10 rfl dJ6_numberOfLeadingZeros_0f7a4_8 (v := 32) (by decide) ?_
      refine EV.goto 14 (by decide) dJ6_numberOfLeadingZeros_0f7a4_10 ?_
      exact EV.iret rfl dJ6_numberOfLeadingZeros_0f7a4_14 h
theorem eJ6_numberOfLeadingZeros_0f7a4 {Γ : Gm} {d : Nat} {σ : AH} {Q : Oc → AH → Prop} {v0 : Int32} (h : ((0 < v0 → ((v0 < 65536 → EV Γ MJ6_numberOfLeadingZeros_0f7a4 d 33 [some (.int v0), some (.int 31)] [] σ Q) ∧ (¬ v0 < 65536 → EV Γ MJ6_numberOfLeadingZeros_0f7a4 d 33 [some (.int (v0.toUInt32 >>> (Int32.toUInt32 16 &&& Int32.toUInt32 31)).toInt32), some (.int (31 + (-16)))] [] σ Q))) ∧ (¬ 0 < v0 → ((v0 ≠ 0 → Q (.inl (some (.int 0))) σ) ∧ (v0 = 0 → Q (.inl (some (.int 32))) σ))))) : RUN Γ d MJ6_numberOfLeadingZeros_0f7a4 [.int v0] σ Q :=
  EV.enter [some (.int v0), none] rfl (by decide +kernel) (Nat.le_of_ble_eq_true rfl) rfl (gJ6_numberOfLeadingZeros_0f7a4_0 h)
theorem gJ6_numberOfLeadingZeros_0f7a4_33 {Γ : Gm} {d : Nat} {σ : AH} {Q : Oc → AH → Prop} {v0 : Int32} {v1 : Int32} (h : ((v0 < 256 → EV Γ MJ6_numberOfLeadingZeros_0f7a4 d 48 [some (.int v0), some (.int v1)] [] σ Q) ∧ (¬ v0 < 256 → EV Γ MJ6_numberOfLeadingZeros_0f7a4 d 48 [some (.int (v0.toUInt32 >>> (Int32.toUInt32 8 &&& Int32.toUInt32 31)).toInt32), some (.int (v1 + (-8)))] [] σ Q))) : EV Γ MJ6_numberOfLeadingZeros_0f7a4 d 33 [some (.int v0), some (.int v1)] [] σ Q := by
  refine EV.iload_n 34 rfl 0 rfl rfl dJ6_numberOfLeadingZeros_0f7a4_33 ?_
  refine EV.sipush 37 rfl dJ6_numberOfLeadingZeros_0f7a4_34 (v := 256) (by decide) ?_
  refine EV.icmp_lt 40 48 rfl (by decide) dJ6_numberOfLeadingZeros_0f7a4_37 (fun c1 => ?_) (fun c1 => ?_)
  · have h := h.1 c1
    exact h
  · have h := h.2 c1
    refine EV.iinc 43 rfl [some (.int v0), some (.int (v1 + (-8)))] (v := (-8)) (by decide) (by decide) rfl rfl dJ6_numberOfLeadingZeros_0f7a4_40 ?_
    refine EV.iload_n 44 rfl 0 rfl rfl dJ6_numberOfLeadingZeros_0f7a4_43 ?_
    refine EV.bipush 46 rfl dJ6_numberOfLeadingZeros_0f7a4_44 (v := 8) (by decide) ?_
    refine EV.iushr 47 rfl dJ6_numberOfLeadingZeros_0f7a4_46 ?_
    refine EV.istore_n 48 rfl 0 [some (.int (v0.toUInt32 >>> (Int32.toUInt32 8 &&& Int32.toUInt32 31)).toInt32), some (.int (v1 + (-8)))] rfl (by decide) rfl dJ6_numberOfLeadingZeros_0f7a4_47 ?_
    exact h
theorem gJ6_numberOfLeadingZeros_0f7a4_48 {Γ : Gm} {d : Nat} {σ : AH} {Q : Oc → AH → Prop} {v0 : Int32} {v1 : Int32} (h : ((v0 < 16 → EV Γ MJ6_numberOfLeadingZeros_0f7a4 d 61 [some (.int v0), some (.int v1)] [] σ Q) ∧ (¬ v0 < 16 → EV Γ MJ6_numberOfLeadingZeros_0f7a4 d 61 [some (.int (v0.toUInt32 >>> (Int32.toUInt32 4 &&& Int32.toUInt32 31)).toInt32), some (.int (v1 + (-4)))] [] σ Q))) : EV Γ MJ6_numberOfLeadingZeros_0f7a4 d 48 [some (.int v0), some (.int v1)] [] σ Q := by
  refine EV.iload_n 49 rfl 0 rfl rfl dJ6_numberOfLeadingZeros_0f7a4_48 ?_
  refine EV.bipush 51 rfl dJ6_numberOfLeadingZeros_0f7a4_49 (v := 16) (by decide) ?_
  refine EV.icmp_lt 54 61 rfl (by decide) dJ6_numberOfLeadingZeros_0f7a4_51 (fun c1 => ?_) (fun c1 => ?_)
  · have h := h.1 c1
    exact h
  · have h := h.2 c1
    refine EV.iinc 57 rfl [some (.int v0), some (.int (v1 + (-4)))] (v := (-4)) (by decide) (by decide) rfl rfl dJ6_numberOfLeadingZeros_0f7a4_54 ?_
    refine EV.iload_n 58 rfl 0 rfl rfl dJ6_numberOfLeadingZeros_0f7a4_57 ?_
    refine EV.iconst 59 rfl dJ6_numberOfLeadingZeros_0f7a4_58 (v := 4) (by decide) ?_
    refine EV.iushr 60 rfl dJ6_numberOfLeadingZeros_0f7a4_59 ?_
    refine EV.istore_n 61 rfl 0 [some (.int (v0.toUInt32 >>> (Int32.toUInt32 4 &&& Int32.toUInt32 31)).toInt32), some (.int (v1 + (-4)))] rfl (by decide) rfl dJ6_numberOfLeadingZeros_0f7a4_60 ?_
    exact h
theorem gJ6_numberOfLeadingZeros_0f7a4_61 {Γ : Gm} {d : Nat} {σ : AH} {Q : Oc → AH → Prop} {v0 : Int32} {v1 : Int32} (h : ((v0 < 4 → Q (.inl (some (.int (v1 - (v0.toUInt32 >>> (Int32.toUInt32 1 &&& Int32.toUInt32 31)).toInt32)))) σ) ∧ (¬ v0 < 4 → Q (.inl (some (.int ((v1 + (-2)) - (((v0.toUInt32 >>> (Int32.toUInt32 2 &&& Int32.toUInt32 31)).toInt32).toUInt32 >>> (Int32.toUInt32 1 &&& Int32.toUInt32 31)).toInt32)))) σ))) : EV Γ MJ6_numberOfLeadingZeros_0f7a4 d 61 [some (.int v0), some (.int v1)] [] σ Q := by
  refine EV.iload_n 62 rfl 0 rfl rfl dJ6_numberOfLeadingZeros_0f7a4_61 ?_
  refine EV.iconst 63 rfl dJ6_numberOfLeadingZeros_0f7a4_62 (v := 4) (by decide) ?_
  refine EV.icmp_lt 66 73 rfl (by decide) dJ6_numberOfLeadingZeros_0f7a4_63 (fun c1 => ?_) (fun c1 => ?_)
  · have h := h.1 c1
    refine EV.iload_n 74 rfl 1 rfl rfl dJ6_numberOfLeadingZeros_0f7a4_73 ?_
    refine EV.iload_n 75 rfl 0 rfl rfl dJ6_numberOfLeadingZeros_0f7a4_74 ?_
    refine EV.iconst 76 rfl dJ6_numberOfLeadingZeros_0f7a4_75 (v := 1) (by decide) ?_
    refine EV.iushr 77 rfl dJ6_numberOfLeadingZeros_0f7a4_76 ?_
    refine EV.isub 78 rfl dJ6_numberOfLeadingZeros_0f7a4_77 ?_
    exact EV.iret rfl dJ6_numberOfLeadingZeros_0f7a4_78 h
  · have h := h.2 c1
    refine EV.iinc 69 rfl [some (.int v0), some (.int (v1 + (-2)))] (v := (-2)) (by decide) (by decide) rfl rfl dJ6_numberOfLeadingZeros_0f7a4_66 ?_
    refine EV.iload_n 70 rfl 0 rfl rfl dJ6_numberOfLeadingZeros_0f7a4_69 ?_
    refine EV.iconst 71 rfl dJ6_numberOfLeadingZeros_0f7a4_70 (v := 2) (by decide) ?_
    refine EV.iushr 72 rfl dJ6_numberOfLeadingZeros_0f7a4_71 ?_
    refine EV.istore_n 73 rfl 0 [some (.int (v0.toUInt32 >>> (Int32.toUInt32 2 &&& Int32.toUInt32 31)).toInt32), some (.int (v1 + (-2)))] rfl (by decide) rfl dJ6_numberOfLeadingZeros_0f7a4_72 ?_
    refine EV.iload_n 74 rfl 1 rfl rfl dJ6_numberOfLeadingZeros_0f7a4_73 ?_
    refine EV.iload_n 75 rfl 0 rfl rfl dJ6_numberOfLeadingZeros_0f7a4_74 ?_
    refine EV.iconst 76 rfl dJ6_numberOfLeadingZeros_0f7a4_75 (v := 1) (by decide) ?_
    refine EV.iushr 77 rfl dJ6_numberOfLeadingZeros_0f7a4_76 ?_
    refine EV.isub 78 rfl dJ6_numberOfLeadingZeros_0f7a4_77 ?_
    exact EV.iret rfl dJ6_numberOfLeadingZeros_0f7a4_78 h
theorem gJ6_numberOfTrailingZeros_0f7a4_0 {Γ : Gm} {d : Nat} {σ : AH} {Q : Oc → AH → Prop} {v0 : Int32} (h : ((0 < ((v0 ^^^ (-1)) &&& (v0 - 1)) → ((((v0 ^^^ (-1)) &&& (v0 - 1)) ≤ 65536 → EV Γ MJ6_numberOfTrailingZeros_0f7a4 d 34 [some (.int ((v0 ^^^ (-1)) &&& (v0 - 1))), some (.int 1)] [] σ Q) ∧ (¬ ((v0 ^^^ (-1)) &&& (v0 - 1)) ≤ 65536 → EV Γ MJ6_numberOfTrailingZeros_0f7a4 d 34 [some (.int (((v0 ^^^ (-1)) &&& (v0 - 1)).toUInt32 >>> (Int32.toUInt32 16 &&& Int32.toUInt32 31)).toInt32), some (.int (1 + 16))] [] σ Q))) ∧ (¬ 0 < ((v0 ^^^ (-1)) &&& (v0 - 1)) → Q (.inl (some (.int (((v0 ^^^ (-1)) &&& (v0 - 1)) &&& 32)))) σ))) : EV Γ MJ6_numberOfTrailingZeros_0f7a4 d 0 [some (.int v0), none] [] σ Q := by
  refine EV.iload_n 1 rfl 0 rfl rfl dJ6_numberOfTrailingZeros_0f7a4_0 ?_
  refine EV.iconst 2 rfl dJ6_numberOfTrailingZeros_0f7a4_1 (v := (-1)) (by decide) ?_
  refine EV.ixor 3 rfl dJ6_numberOfTrailingZeros_0f7a4_2 ?_
  refine EV.iload_n 4 rfl 0 rfl rfl dJ6_numberOfTrailingZeros_0f7a4_3 ?_
  refine EV.iconst 5 rfl dJ6_numberOfTrailingZeros_0f7a4_4 (v := 1) (by decide) ?_
  refine EV.isub 6 rfl dJ6_numberOfTrailingZeros_0f7a4_5 ?_
  refine EV.iand 7 rfl dJ6_numberOfTrailingZeros_0f7a4_6 ?_
  refine EV.istore_n 8 rfl 0 [some (.int ((v0 ^^^ (-1)) &&& (v0 - 1))), none] rfl (by decide) rfl dJ6_numberOfTrailingZeros_0f7a4_7 ?_
  refine EV.iload_n 9 rfl 0 rfl rfl dJ6_numberOfTrailingZeros_0f7a4_8 ?_
  refine EV.if_gt 12 17 rfl (by decide) dJ6_numberOfTrailingZeros_0f7a4_9 (fun c1 => ?_) (fun c1 => ?_)
  · have h := h.1 c1
    refine EV.iconst 18 rfl dJ6_numberOfTrailingZeros_0f7a4_17 (v := 1) (by decide) ?_
    refine EV.istore_n 19 rfl 1 [some (.int ((v0 ^^^ (-1)) &&& (v0 - 1))), some (.int 1)] rfl (by decide) rfl dJ6_numberOfTrailingZeros_0f7a4_18 ?_
    refine EV.iload_n 20 rfl 0 rfl rfl dJ6_numberOfTrailingZeros_0f7a4_19 ?_
    refine EV.ldcw 23 rfl k_J6_264 dJ6_numberOfTrailingZeros_0f7a4_20 ?_
    refine EV.icmp_le 26 34 rfl (by decide) dJ6_numberOfTrailingZeros_0f7a4_23 (fun c2 => ?_) (fun c2 => ?_)
    · have h := h.1 c2
      exact h
    · have h := h.2 c2
      refine EV.iinc 29 rfl [some (.int ((v0 ^^^ (-1)) &&& (v0 - 1))), some (.int (1 + 16))] (v := 16) (by decide) (by decide) rfl rfl dJ6_numberOfTrailingZeros_0f7a4_26 ?_
      refine EV.iload_n 30 rfl 0 rfl rfl dJ6_numberOfTrailingZeros_0f7a4_29 ?_
      refine EV.bipush 32 rfl dJ6_numberOfTrailingZeros_0f7a4_30 (v := 16) (by decide) ?_
      refine EV.iushr 33 rfl dJ6_numberOfTrailingZeros_0f7a4_32 ?_
      refine EV.istore_n 34 rfl 0 [some (.int (((v0 ^^^ (-1)) &&& (v0 - 1)).toUInt32 >>> (Int32.toUInt32 16 &&& Int32.toUInt32 31)).toInt32), some (.int (1 + 16))] rfl (by decide) rfl dJ6_numberOfTrailingZeros_0f7a4_33 ?_
      exact h
  · have h := h.2 c1
    refine EV.iload_n 13 rfl 0 rfl rfl dJ6_numberOfTrailingZeros_0f7a4_12 ?_
    refine EV.bipush 15 rfl dJ6_numberOfTrailingZeros_0f7a4_13 (v := 32) (by decide) ?_
    refine EV.iand 16 rfl dJ6_numberOfTrailingZeros_0f7a4_15 ?_
    exact EV.iret rfl dJ6_numberOfTrailingZeros_0f7a4_16 h
theorem eJ6_numberOfTrailingZeros_0f7a4 {Γ : Gm} {d : Nat} {σ : AH} {Q : Oc → AH → Prop} {v0 : Int32} (h : ((0 < ((v0 ^^^ (-1)) &&& (v0 - 1)) → ((((v0 ^^^ (-1)) &&& (v0 - 1)) ≤ 65536 → EV Γ MJ6_numberOfTrailingZeros_0f7a4 d 34 [some (.int ((v0 ^^^ (-1)) &&& (v0 - 1))), some (.int 1)] [] σ Q) ∧ (¬ ((v0 ^^^ (-1)) &&& (v0 - 1)) ≤ 65536 → EV Γ MJ6_numberOfTrailingZeros_0f7a4 d 34 [some (.int (((v0 ^^^ (-1)) &&& (v0 - 1)).toUInt32 >>> (Int32.toUInt32 16 &&& Int32.toUInt32 31)).toInt32), some (.int (1 + 16))] [] σ Q))) ∧ (¬ 0 < ((v0 ^^^ (-1)) &&& (v0 - 1)) → Q (.inl (some (.int (((v0 ^^^ (-1)) &&& (v0 - 1)) &&& 32)))) σ))) : RUN Γ d MJ6_numberOfTrailingZeros_0f7a4 [.int v0] σ Q :=
  EV.enter [some (.int v0), none] rfl (by decide +kernel) (Nat.le_of_ble_eq_true rfl) rfl (gJ6_numberOfTrailingZeros_0f7a4_0 h)
theorem gJ6_numberOfTrailingZeros_0f7a4_34 {Γ : Gm} {d : Nat} {σ : AH} {Q : Oc → AH → Prop} {v0 : Int32} {v1 : Int32} (h : ((v0 ≤ 256 → EV Γ MJ6_numberOfTrailingZeros_0f7a4 d 49 [some (.int v0), some (.int v1)] [] σ Q) ∧ (¬ v0 ≤ 256 → EV Γ MJ6_numberOfTrailingZeros_0f7a4 d 49 [some (.int (v0.toUInt32 >>> (Int32.toUInt32 8 &&& Int32.toUInt32 31)).toInt32), some (.int (v1 + 8))] [] σ Q))) : EV Γ MJ6_numberOfTrailingZeros_0f7a4 d 34 [some (.int v0), some (.int v1)] [] σ Q := by
  refine EV.iload_n 35 rfl 0 rfl rfl dJ6_numberOfTrailingZeros_0f7a4_34 ?_
  refine EV.sipush 38 rfl dJ6_numberOfTrailingZeros_0f7a4_35 (v := 256) (by decide) ?_
  refine EV.icmp_le 41 49 rfl (by decide) dJ6_numberOfTrailingZeros_0f7a4_38 (fun c1 => ?_) (fun c1 => ?_)
  · have h := h.1 c1
    exact h
  · have h := h.2 c1
    refine EV.iinc 44 rfl [some (.int v0), some (.int (v1 + 8))] (v := 8) (by decide) (by decide) rfl rfl dJ6_numberOfTrailingZeros_0f7a4_41 ?_
    refine EV.iload_n 45 rfl 0 rfl rfl dJ6_numberOfTrailingZeros_0f7a4_44 ?_
    refine EV.bipush 47 rfl dJ6_numberOfTrailingZeros_0f7a4_45 (v := 8) (by decide) ?_
    refine EV.iushr 48 rfl dJ6_numberOfTrailingZeros_0f7a4_47 ?_
    refine EV.istore_n 49 rfl 0 [some (.int (v0.toUInt32 >>> (Int32.toUInt32 8 &&& Int32.toUInt32 31)).toInt32), some (.int (v1 + 8))] rfl (by decide) rfl dJ6_numberOfTrailingZeros_0f7a4_48 ?_
    exact h
theorem gJ6_numberOfTrailingZeros_0f7a4_49 {Γ : Gm} {d : Nat} {σ : AH} {Q : Oc → AH → Prop} {v0 : Int32} {v1 : Int32} (h : ((v0 ≤ 16 → EV Γ MJ6_numberOfTrailingZeros_0f7a4 d 62 [some (.int v0), some (.int v1)] [] σ Q) ∧ (¬ v0 ≤ 16 → EV Γ MJ6_numberOfTrailingZeros_0f7a4 d 62 [some (.int (v0.toUInt32 >>> (Int32.toUInt32 4 &&& Int32.toUInt32 31)).toInt32), some (.int (v1 + 4))] [] σ Q))) : EV Γ MJ6_numberOfTrailingZeros_0f7a4 d 49 [some (.int v0), some (.int v1)] [] σ Q := by
  refine EV.iload_n 50 rfl 0 rfl rfl dJ6_numberOfTrailingZeros_0f7a4_49 ?_
  refine EV.bipush 52 rfl dJ6_numberOfTrailingZeros_0f7a4_50 (v := 16) (by decide) ?_
  refine EV.icmp_le 55 62 rfl (by decide) dJ6_numberOfTrailingZeros_0f7a4_52 (fun c1 => ?_) (fun c1 => ?_)
  · have h := h.1 c1
    exact h
  · have h := h.2 c1
    refine EV.iinc 58 rfl [some (.int v0), some (.int (v1 + 4))] (v := 4) (by decide) (by decide) rfl rfl dJ6_numberOfTrailingZeros_0f7a4_55 ?_
    refine EV.iload_n 59 rfl 0 rfl rfl dJ6_numberOfTrailingZeros_0f7a4_58 ?_
    refine EV.iconst 60 rfl dJ6_numberOfTrailingZeros_0f7a4_59 (v := 4) (by decide) ?_
    refine EV.iushr 61 rfl dJ6_numberOfTrailingZeros_0f7a4_60 ?_
    refine EV.istore_n 62 rfl 0 [some (.int (v0.toUInt32 >>> (Int32.toUInt32 4 &&& Int32.toUInt32 31)).toInt32), some (.int (v1 + 4))] rfl (by decide) rfl dJ6_numberOfTrailingZeros_0f7a4_61 ?_
    exact h
theorem gJ6_numberOfTrailingZeros_0f7a4_62 {Γ : Gm} {d : Nat} {σ : AH} {Q : Oc → AH → Prop} {v0 : Int32} {v1 : Int32} (h : ((v0 ≤ 4 → Q (.inl (some (.int (v1 + (v0.toUInt32 >>> (Int32.toUInt32 1 &&& Int32.toUInt32 31)).toInt32)))) σ) ∧ (¬ v0 ≤ 4 → Q (.inl (some (.int ((v1 + 2) + (((v0.toUInt32 >>> (Int32.toUInt32 2 &&& Int32.toUInt32 31)).toInt32).toUInt32 >>> (Int32.toUInt32 1 &&& Int32.toUInt32 31)).toInt32)))) σ))) : EV Γ MJ6_numberOfTrailingZeros_0f7a4 d 62 [some (.int v0), some (.int v1)] [] σ Q := by
  refine EV.iload_n 63 rfl 0 rfl rfl dJ6_numberOfTrailingZeros_0f7a4_62 ?_
  refine EV.iconst 64 rfl dJ6_numberOfTrailingZeros_0f7a4_63 (v := 4) (by decide) ?_
  refine EV.icmp_le 67 74 rfl (by decide) dJ6_numberOfTrailingZeros_0f7a4_64 (fun c1 => ?_) (fun c1 => ?_)
  · have h := h.1 c1
    refine EV.iload_n 75 rfl 1 rfl rfl dJ6_numberOfTrailingZeros_0f7a4_74 ?_
    refine EV.iload_n 76 rfl 0 rfl rfl dJ6_numberOfTrailingZeros_0f7a4_75 ?_
    refine EV.iconst 77 rfl dJ6_numberOfTrailingZeros_0f7a4_76 (v := 1) (by decide) ?_
    refine EV.iushr 78 rfl dJ6_numberOfTrailingZeros_0f7a4_77 ?_
    refine EV.iadd 79 rfl dJ6_numberOfTrailingZeros_0f7a4_78 ?_
    exact EV.iret rfl dJ6_numberOfTrailingZeros_0f7a4_79 h
  · have h := h.2 c1
    refine EV.iinc 70 rfl [some (.int v0), some (.int (v1 + 2))] (v := 2) (by decide) (by decide) rfl rfl dJ6_numberOfTrailingZeros_0f7a4_67 ?_
    refine EV.iload_n 71 rfl 0 rfl rfl dJ6_numberOfTrailingZeros_0f7a4_70 ?_
    refine EV.iconst 72 rfl dJ6_numberOfTrailingZeros_0f7a4_71 (v := 2) (by decide) ?_
    refine EV.iushr 73 rfl dJ6_numberOfTrailingZeros_0f7a4_72 ?_
    refine EV.istore_n 74 rfl 0 [some (.int (v0.toUInt32 >>> (Int32.toUInt32 2 &&& Int32.toUInt32 31)).toInt32), some (.int (v1 + 2))] rfl (by decide) rfl dJ6_numberOfTrailingZeros_0f7a4_73 ?_
    refine EV.iload_n 75 rfl 1 rfl rfl dJ6_numberOfTrailingZeros_0f7a4_74 ?_
    refine EV.iload_n 76 rfl 0 rfl rfl dJ6_numberOfTrailingZeros_0f7a4_75 ?_
    refine EV.iconst 77 rfl dJ6_numberOfTrailingZeros_0f7a4_76 (v := 1) (by decide) ?_
    refine EV.iushr 78 rfl dJ6_numberOfTrailingZeros_0f7a4_77 ?_
    refine EV.iadd 79 rfl dJ6_numberOfTrailingZeros_0f7a4_78 ?_
    exact EV.iret rfl dJ6_numberOfTrailingZeros_0f7a4_79 h
theorem gJ6_bitCount_0f7a4_0 {Γ : Gm} {d : Nat} {σ : AH} {Q : Oc → AH → Prop} {v0 : Int32} (h : Q (.inl (some (.int ((((((((v0 - ((v0.toUInt32 >>> (Int32.toUInt32 1 &&& Int32.toUInt32 31)).toInt32 &&& 1431655765)) &&& 858993459) + (((v0 - ((v0.toUInt32 >>> (Int32.toUInt32 1 &&& Int32.toUInt32 31)).toInt32 &&& 1431655765)).toUInt32 >>> (Int32.toUInt32 2 &&& Int32.toUInt32 31)).toInt32 &&& 858993459)) + ((((v0 - ((v0.toUInt32 >>> (Int32.toUInt32 1 &&& Int32.toUInt32 31)).toInt32 &&& 1431655765)) &&& 858993459) + (((v0 - ((v0.toUInt32 >>> (Int32.toUInt32 1 &&& Int32.toUInt32 31)).toInt32 &&& 1431655765)).toUInt32 >>> (Int32.toUInt32 2 &&& Int32.toUInt32 31)).toInt32 &&& 858993459)).toUInt32 >>> (Int32.toUInt32 4 &&& Int32.toUInt32 31)).toInt32) &&& 252645135) + ((((((v0 - ((v0.toUInt32 >>> (Int32.toUInt32 1 &&& Int32.toUInt32 31)).toInt32 &&& 1431655765)) &&& 858993459) + (((v0 - ((v0.toUInt32 >>> (Int32.toUInt32 1 &&& Int32.toUInt32 31)).toInt32 &&& 1431655765)).toUInt32 >>> (Int32.toUInt32 2 &&& Int32.toUInt32 31)).toInt32 &&& 858993459)) + ((((v0 - ((v0.toUInt32 >>> (Int32.toUInt32 1 &&& Int32.toUInt32 31)).toInt32 &&& 1431655765)) &&& 858993459) + (((v0 - ((v0.toUInt32 >>> (Int32.toUInt32 1 &&& Int32.toUInt32 31)).toInt32 &&& 1431655765)).toUInt32 >>> (Int32.toUInt32 2 &&& Int32.toUInt32 31)).toInt32 &&& 858993459)).toUInt32 >>> (Int32.toUInt32 4 &&& Int32.toUInt32 31)).toInt32) &&& 252645135).toUInt32 >>> (Int32.toUInt32 8 &&& Int32.toUInt32 31)).toInt32) + (((((((v0 - ((v0.toUInt32 >>> (Int32.toUInt32 1 &&& Int32.toUInt32 31)).toInt32 &&& 1431655765)) &&& 858993459) + (((v0 - ((v0.toUInt32 >>> (Int32.toUInt32 1 &&& Int32.toUInt32 31)).toInt32 &&& 1431655765)).toUInt32 >>> (Int32.toUInt32 2 &&& Int32.toUInt32 31)).toInt32 &&& 858993459)) + ((((v0 - ((v0.toUInt32 >>> (Int32.toUInt32 1 &&& Int32.toUInt32 31)).toInt32 &&& 1431655765)) &&& 858993459) + (((v0 - ((v0.toUInt32 >>> (Int32.toUInt32 1 &&& Int32.toUInt32 31)).toInt32 &&& 1431655765)).toUInt32 >>> (Int32.toUInt32 2 &&& Int32.toUInt32 31)).toInt32 &&& 858993459)).toUInt32 >>> (Int32.toUInt32 4 &&& Int32.toUInt32 31)).toInt32) &&& 252645135) + ((((((v0 - ((v0.toUInt32 >>> (Int32.toUInt32 1 &&& Int32.toUInt32 31)).toInt32 &&& 1431655765)) &&& 858993459) + (((v0 - ((v0.toUInt32 >>> (Int32.toUInt32 1 &&& Int32.toUInt32 31)).toInt32 &&& 1431655765)).toUInt32 >>> (Int32.toUInt32 2 &&& Int32.toUInt32 31)).toInt32 &&& 858993459)) + ((((v0 - ((v0.toUInt32 >>> (Int32.toUInt32 1 &&& Int32.toUInt32 31)).toInt32 &&& 1431655765)) &&& 858993459) + (((v0 - ((v0.toUInt32 >>> (Int32.toUInt32 1 &&& Int32.toUInt32 31)).toInt32 &&& 1431655765)).toUInt32 >>> (Int32.toUInt32 2 &&& Int32.toUInt32 31)).toInt32 &&& 858993459)).toUInt32 >>> (Int32.toUInt32 4 &&& Int32.toUInt32 31)).toInt32) &&& 252645135).toUInt32 >>> (Int32.toUInt32 8 &&& Int32.toUInt32 31)).toInt32).toUInt32 >>> (Int32.toUInt32 16 &&& Int32.toUInt32 31)).toInt32) &&& 63)))) σ) : EV Γ MJ6_bitCount_0f7a4 d 0 [some (.int v0)] [] σ Q := by
  refine EV.iload_n 1 rfl 0 rfl rfl dJ6_bitCount_0f7a4_0 ?_
  refine EV.iload_n 2 rfl 0 rfl rfl dJ6_bitCount_0f7a4_1 ?_
  refine EV.iconst 3 rfl dJ6_bitCount_0f7a4_2 (v := 1) (by decide) ?_
  refine EV.iushr 4 rfl dJ6_bitCount_0f7a4_3 ?_
  refine EV.ldcw 7 rfl k_J6_265 dJ6_bitCount_0f7a4_4 ?_
  refine EV.iand 8 rfl dJ6_bitCount_0f7a4_7 ?_
  refine EV.isub 9 rfl dJ6_bitCount_0f7a4_8 ?_
  refine EV.istore_n 10 rfl 0 [some (.int (v0 - ((v0.toUInt32 >>> (Int32.toUInt32 1 &&& Int32.toUInt32 31)).toInt32 &&& 1431655765)))] rfl (by decide) rfl dJ6_bitCount_0f7a4_9 ?_
  refine EV.iload_n 11 rfl 0 rfl rfl dJ6_bitCount_0f7a4_10 ?_
  refine EV.ldcw 14 rfl k_J6_266 dJ6_bitCount_0f7a4_11 ?_
  refine EV.iand 15 rfl dJ6_bitCount_0f7a4_14 ?_
  refine EV.iload_n 16 rfl 0 rfl rfl dJ6_bitCount_0f7a4_15 ?_
  refine EV.iconst 17 rfl dJ6_bitCount_0f7a4_16 (v := 2) (by decide) ?_
  refine EV.iushr 18 rfl dJ6_bitCount_0f7a4_17 ?_
  refine EV.ldcw 21 rfl k_J6_266 dJ6_bitCount_0f7a4_18 ?_
  refine EV.iand 22 rfl dJ6_bitCount_0f7a4_21 ?_
  refine EV.iadd 23 rfl dJ6_bitCount_0f7a4_22 ?_
  refine EV.istore_n 24 rfl 0 [some (.int (((v0 - ((v0.toUInt32 >>> (Int32.toUInt32 1 &&& Int32.toUInt32 31)).toInt32 &&& 1431655765)) &&& 858993459) + (((v0 - ((v0.toUInt32 >>> (Int32.toUInt32 1 &&& Int32.toUInt32 31)).toInt32 &&& 1431655765)).toUInt32 >>> (Int32.toUInt32 2 &&& Int32.toUInt32 31)).toInt32 &&& 858993459)))] rfl (by decide) rfl dJ6_bitCount_0f7a4_23 ?_
  refine EV.iload_n 25 rfl 0 rfl rfl dJ6_bitCount_0f7a4_24 ?_
  refine EV.iload_n 26 rfl 0 rfl rfl dJ6_bitCount_0f7a4_25 ?_
  refine EV.iconst 27 rfl dJ6_bitCount_0f7a4_26 (v := 4) (by decide) ?_
  refine EV.iushr 28 rfl dJ6_bitCount_0f7a4_27 ?_
  refine EV.iadd 29 rfl dJ6_bitCount_0f7a4_28 ?_
  refine EV.ldcw 32 rfl k_J6_267 dJ6_bitCount_0f7a4_29 ?_
  refine EV.iand 33 rfl dJ6_bitCount_0f7a4_32 ?_
  refine EV.istore_n 34 rfl 0 [some (.int (((((v0 - ((v0.toUInt32 >>> (Int32.toUInt32 1 &&& Int32.toUInt32 31)).toInt32 &&& 1431655765)) &&& 858993459) + (((v0 - ((v0.toUInt32 >>> (Int32.toUInt32 1 &&& Int32.toUInt32 31)).toInt32 &&& 1431655765)).toUInt32 >>> (Int32.toUInt32 2 &&& Int32.toUInt32 31)).toInt32 &&& 858993459)) + ((((v0 - ((v0.toUInt32 >>> (Int32.toUInt32 1 &&& Int32.toUInt32 31)).toInt32 &&& 1431655765)) &&& 858993459) + (((v0 - ((v0.toUInt32 >>> (Int32.toUInt32 1 &&& Int32.toUInt32 31)).toInt32 &&& 1431655765)).toUInt32 >>> (Int32.toUInt32 2 &&& Int32.toUInt32 31)).toInt32 &&& 858993459)).toUInt32 >>> (Int32.toUInt32 4 &&& Int32.toUInt32 31)).toInt32) &&& 252645135))] rfl (by decide) rfl dJ6_bitCount_0f7a4_33 ?_
  refine EV.iload_n 35 rfl 0 rfl rfl dJ6_bitCount_0f7a4_34 ?_
  refine EV.iload_n 36 rfl 0 rfl rfl dJ6_bitCount_0f7a4_35 ?_
  refine EV.bipush 38 rfl dJ6_bitCount_0f7a4_36 (v := 8) (by decide) ?_
  refine EV.iushr 39 rfl dJ6_bitCount_0f7a4_38 ?_
  refine EV.iadd 40 rfl dJ6_bitCount_0f7a4_39 ?_
  refine EV.istore_n 41 rfl 0 [some (.int ((((((v0 - ((v0.toUInt32 >>> (Int32.toUInt32 1 &&& Int32.toUInt32 31)).toInt32 &&& 1431655765)) &&& 858993459) + (((v0 - ((v0.toUInt32 >>> (Int32.toUInt32 1 &&& Int32.toUInt32 31)).toInt32 &&& 1431655765)).toUInt32 >>> (Int32.toUInt32 2 &&& Int32.toUInt32 31)).toInt32 &&& 858993459)) + ((((v0 - ((v0.toUInt32 >>> (Int32.toUInt32 1 &&& Int32.toUInt32 31)).toInt32 &&& 1431655765)) &&& 858993459) + (((v0 - ((v0.toUInt32 >>> (Int32.toUInt32 1 &&& Int32.toUInt32 31)).toInt32 &&& 1431655765)).toUInt32 >>> (Int32.toUInt32 2 &&& Int32.toUInt32 31)).toInt32 &&& 858993459)).toUInt32 >>> (Int32.toUInt32 4 &&& Int32.toUInt32 31)).toInt32) &&& 252645135) + ((((((v0 - ((v0.toUInt32 >>> (Int32.toUInt32 1 &&& Int32.toUInt32 31)).toInt32 &&& 1431655765)) &&& 858993459) + (((v0 - ((v0.toUInt32 >>> (Int32.toUInt32 1 &&& Int32.toUInt32 31)).toInt32 &&& 1431655765)).toUInt32 >>> (Int32.toUInt32 2 &&& Int32.toUInt32 31)).toInt32 &&& 858993459)) + ((((v0 - ((v0.toUInt32 >>> (Int32.toUInt32 1 &&& Int32.toUInt32 31)).toInt32 &&& 1431655765)) &&& 858993459) + (((v0 - ((v0.toUInt32 >>> (Int32.toUInt32 1 &&& Int32.toUInt32 31)).toInt32 &&& 1431655765)).toUInt32 >>> (Int32.toUInt32 2 &&& Int32.toUInt32 31)).toInt32 &&& 858993459)).toUInt32 >>> (Int32.toUInt32 4 &&& Int32.toUInt32 31)).toInt32) &&& 252645135).toUInt32 >>> (Int32.toUInt32 8 &&& Int32.toUInt32 31)).toInt32))] rfl (by decide) rfl dJ6_bitCount_0f7a4_40 ?_
  refine EV.iload_n 42 rfl 0 rfl rfl dJ6_bitCount_0f7a4_41 ?_
  refine EV.iload_n 43 rfl 0 rfl rfl dJ6_bitCount_0f7a4_42 ?_
  refine EV.bipush 45 rfl dJ6_bitCount_0f7a4_43 (v := 16) (by decide) ?_
  refine EV.iushr 46 rfl dJ6_bitCount_0f7a4_45 ?_
  refine EV.iadd 47 rfl dJ6_bitCount_0f7a4_46 ?_
  refine EV.istore_n 48 rfl 0 [some (.int (((((((v0 - ((v0.toUInt32 >>> (Int32.toUInt32 1 &&& Int32.toUInt32 31)).toInt32 &&& 1431655765)) &&& 858993459) + (((v0 - ((v0.toUInt32 >>> (Int32.toUInt32 1 &&& Int32.toUInt32 31)).toInt32 &&& 1431655765)).toUInt32 >>> (Int32.toUInt32 2 &&& Int32.toUInt32 31)).toInt32 &&& 858993459)) + ((((v0 - ((v0.toUInt32 >>> (Int32.toUInt32 1 &&& Int32.toUInt32 31)).toInt32 &&& 1431655765)) &&& 858993459) + (((v0 - ((v0.toUInt32 >>> (Int32.toUInt32 1 &&& Int32.toUInt32 31)).toInt32 &&& 1431655765)).toUInt32 >>> (Int32.toUInt32 2 &&& Int32.toUInt32 31)).toInt32 &&& 858993459)).toUInt32 >>> (Int32.toUInt32 4 &&& Int32.toUInt32 31)).toInt32) &&& 252645135) + ((((((v0 - ((v0.toUInt32 >>> (Int32.toUInt32 1 &&& Int32.toUInt32 31)).toInt32 &&& 1431655765)) &&& 858993459) + (((v0 - ((v0.toUInt32 >>> (Int32.toUInt32 1 &&& Int32.toUInt32 31)).toInt32 &&& 1431655765)).toUInt32 >>> (Int32.toUInt32 2 &&& Int32.toUInt32 31)).toInt32 &&& 858993459)) + ((((v0 - ((v0.toUInt32 >>> (Int32.toUInt32 1 &&& Int32.toUInt32 31)).toInt32 &&& 1431655765)) &&& 858993459) + (((v0 - ((v0.toUInt32 >>> (Int32.toUInt32 1 &&& Int32.toUInt32 31)).toInt32 &&& 1431655765)).toUInt32 >>> (Int32.toUInt32 2 &&& Int32.toUInt32 31)).toInt32 &&& 858993459)).toUInt32 >>> (Int32.toUInt32 4 &&& Int32.toUInt32 31)).toInt32) &&& 252645135).toUInt32 >>> (Int32.toUInt32 8 &&& Int32.toUInt32 31)).toInt32) + (((((((v0 - ((v0.toUInt32 >>> (Int32.toUInt32 1 &&& Int32.toUInt32 31)).toInt32 &&& 1431655765)) &&& 858993459) + (((v0 - ((v0.toUInt32 >>> (Int32.toUInt32 1 &&& Int32.toUInt32 31)).toInt32 &&& 1431655765)).toUInt32 >>> (Int32.toUInt32 2 &&& Int32.toUInt32 31)).toInt32 &&& 858993459)) + ((((v0 - ((v0.toUInt32 >>> (Int32.toUInt32 1 &&& Int32.toUInt32 31)).toInt32 &&& 1431655765)) &&& 858993459) + (((v0 - ((v0.toUInt32 >>> (Int32.toUInt32 1 &&& Int32.toUInt32 31)).toInt32 &&& 1431655765)).toUInt32 >>> (Int32.toUInt32 2 &&& Int32.toUInt32 31)).toInt32 &&& 858993459)).toUInt32 >>> (Int32.toUInt32 4 &&& Int32.toUInt32 31)).toInt32) &&& 252645135) + ((((((v0 - ((v0.toUInt32 >>> (Int32.toUInt32 1 &&& Int32.toUInt32 31)).toInt32 &&& 1431655765)) &&& 858993459) + (((v0 - ((v0.toUInt32 >>> (Int32.toUInt32 1 &&& Int32.toUInt32 31)).toInt32 &&& 1431655765)).toUInt32 >>> (Int32.toUInt32 2 &&& Int32.toUInt32 31)).toInt32 &&& 858993459)) + ((((v0 - ((v0.toUInt32 >>> (Int32.toUInt32 1 &&& Int32.toUInt32 31)).toInt32 &&& 1431655765)) &&& 858993459) + (((v0 - ((v0.toUInt32 >>> (Int32.toUInt32 1 &&& Int32.toUInt32 31)).toInt32 &&& 1431655765)).toUInt32 >>> (Int32.toUInt32 2 &&& Int32.toUInt32 31)).toInt32 &&& 858993459)).toUInt32 >>> (Int32.toUInt32 4 &&& Int32.toUInt32 31)).toInt32) &&& 252645135).toUInt32 >>> (Int32.toUInt32 8 &&& Int32.toUInt32 31)).toInt32).toUInt32 >>> (Int32.toUInt32 16 &&& Int32.toUInt32 31)).toInt32))] rfl (by decide) rfl dJ6_bitCount_0f7a4_47 ?_
  refine EV.iload_n 49 rfl 0 rfl rfl dJ6_bitCount_0f7a4_48 ?_
  refine EV.bipush 51 rfl dJ6_bitCount_0f7a4_49 (v := 63) (by decide) ?_
  refine EV.iand 52 rfl dJ6_bitCount_0f7a4_51 ?_
  exact EV.iret rfl dJ6_bitCount_0f7a4_52 h
theorem eJ6_bitCount_0f7a4 {Γ : Gm} {d : Nat} {σ : AH} {Q : Oc → AH → Prop} {v0 : Int32} (h : Q (.inl (some (.int ((((((((v0 - ((v0.toUInt32 >>> (Int32.toUInt32 1 &&& Int32.toUInt32 31)).toInt32 &&& 1431655765)) &&& 858993459) + (((v0 - ((v0.toUInt32 >>> (Int32.toUInt32 1 &&& Int32.toUInt32 31)).toInt32 &&& 1431655765)).toUInt32 >>> (Int32.toUInt32 2 &&& Int32.toUInt32 31)).toInt32 &&& 858993459)) + ((((v0 - ((v0.toUInt32 >>> (Int32.toUInt32 1 &&& Int32.toUInt32 31)).toInt32 &&& 1431655765)) &&& 858993459) + (((v0 - ((v0.toUInt32 >>> (Int32.toUInt32 1 &&& Int32.toUInt32 31)).toInt32 &&& 1431655765)).toUInt32 >>> (Int32.toUInt32 2 &&& Int32.toUInt32 31)).toInt32 &&& 858993459)).toUInt32 >>> (Int32.toUInt32 4 &&& Int32.toUInt32 31)).toInt32) &&& 252645135) + ((((((v0 - ((v0.toUInt32 >>> (Int32.toUInt32 1 &&& Int32.toUInt32 31)).toInt32 &&& 1431655765)) &&& 858993459) + (((v0 - ((v0.toUInt32 >>> (Int32.toUInt32 1 &&& Int32.toUInt32 31)).toInt32 &&& 1431655765)).toUInt32 >>> (Int32.toUInt32 2 &&& Int32.toUInt32 31)).toInt32 &&& 858993459)) + ((((v0 - ((v0.toUInt32 >>> (Int32.toUInt32 1 &&& Int32.toUInt32 31)).toInt32 &&& 1431655765)) &&& 858993459) + (((v0 - ((v0.toUInt32 >>> (Int32.toUInt32 1 &&& Int32.toUInt32 31)).toInt32 &&& 1431655765)).toUInt32 >>> (Int32.toUInt32 2 &&& Int32.toUInt32 31)).toInt32 &&& 858993459)).toUInt32 >>> (Int32.toUInt32 4 &&& Int32.toUInt32 31)).toInt32) &&& 252645135).toUInt32 >>> (Int32.toUInt32 8 &&& Int32.toUInt32 31)).toInt32) + (((((((v0 - ((v0.toUInt32 >>> (Int32.toUInt32 1 &&& Int32.toUInt32 31)).toInt32 &&& 1431655765)) &&& 858993459) + (((v0 - ((v0.toUInt32 >>> (Int32.toUInt32 1 &&& Int32.toUInt32 31)).toInt32 &&& 1431655765)).toUInt32 >>> (Int32.toUInt32 2 &&& Int32.toUInt32 31)).toInt32 &&& 858993459)) + ((((v0 - ((v0.toUInt32 >>> (Int32.toUInt32 1 &&& Int32.toUInt32 31)).toInt32 &&& 1431655765)) &&& 858993459) + (((v0 - ((v0.toUInt32 >>> (Int32.toUInt32 1 &&& Int32.toUInt32 31)).toInt32 &&& 1431655765)).toUInt32 >>> (Int32.toUInt32 2 &&& Int32.toUInt32 31)).toInt32 &&& 858993459)).toUInt32 >>> (Int32.toUInt32 4 &&& Int32.toUInt32 31)).toInt32) &&& 252645135) + ((((((v0 - ((v0.toUInt32 >>> (Int32.toUInt32 1 &&& Int32.toUInt32 31)).toInt32 &&& 1431655765)) &&& 858993459) + (((v0 - ((v0.toUInt32 >>> (Int32.toUInt32 1 &&& Int32.toUInt32 31)).toInt32 &&& 1431655765)).toUInt32 >>> (Int32.toUInt32 2 &&& Int32.toUInt32 31)).toInt32 &&& 858993459)) + ((((v0 - ((v0.toUInt32 >>> (Int32.toUInt32 1 &&& Int32.toUInt32 31)).toInt32 &&& 1431655765)) &&& 858993459) + (((v0 - ((v0.toUInt32 >>> (Int32.toUInt32 1 &&& Int32.toUInt32 31)).toInt32 &&& 1431655765)).toUInt32 >>> (Int32.toUInt32 2 &&& Int32.toUInt32 31)).toInt32 &&& 858993459)).toUInt32 >>> (Int32.toUInt32 4 &&& Int32.toUInt32 31)).toInt32) &&& 252645135).toUInt32 >>> (Int32.toUInt32 8 &&& Int32.toUInt32 31)).toInt32).toUInt32 >>> (Int32.toUInt32 16 &&& Int32.toUInt32 31)).toInt32) &&& 63)))) σ) : RUN Γ d MJ6_bitCount_0f7a4 [.int v0] σ Q :=
  EV.enter [some (.int v0)] rfl (by decide +kernel) (Nat.le_of_ble_eq_true rfl) rfl (gJ6_bitCount_0f7a4_0 h)
theorem gJ13_numberOfLeadingZeros_95d88_0 {Γ : Gm} {d : Nat} {σ : AH} {Q : Oc → AH → Prop} {v0 : Int64} (h : (((Int64.toInt32 ((Int64.toUInt64 v0 >>> ((Int32.toInt64 32).toUInt64 &&& Int64.toUInt64 63)).toInt64)) ≠ 0 → CI Γ d MJ6_numberOfLeadingZeros_0f7a4 [.int (Int64.toInt32 ((Int64.toUInt64 v0 >>> ((Int32.toInt64 32).toUInt64 &&& Int64.toUInt64 63)).toInt64))] σ (fun r3 σ2 => Q (.inl (some (.int r3))) σ2) (fun _ _ => False)) ∧ ((Int64.toInt32 ((Int64.toUInt64 v0 >>> ((Int32.toInt64 32).toUInt64 &&& Int64.toUInt64 63)).toInt64)) = 0 → CI Γ d MJ6_numberOfLeadingZeros_0f7a4 [.int (Int64.toInt32 v0)] σ (fun r5 σ4 => Q (.inl (some (.int ((32 : Int32) + r5)))) σ4) (fun _ _ => False)))) : EV Γ MJ13_numberOfLeadingZeros_95d88 d 0 [some (.long v0), none, none] [] σ Q := by
  refine EV.lload_n 1 rfl 0 rfl rfl dJ13_numberOfLeadingZeros_95d88_0 ?_
  refine EV.bipush 3 rfl dJ13_numberOfLeadingZeros_95d88_1 (v := 32) (by decide) ?_
  refine EV.lushr 4 rfl dJ13_numberOfLeadingZeros_95d88_3 ?_
  refine EV.l2i 5 rfl dJ13_numberOfLeadingZeros_95d88_4 ?_
  refine EV.istore_n 6 rfl 2 [some (.long v0), none, some (.int (Int64.toInt32 ((Int64.toUInt64 v0 >>> ((Int32.toInt64 32).toUInt64 &&& Int64.toUInt64 63)).toInt64)))] rfl (by decide) rfl dJ13_numberOfLeadingZeros_95d88_5 ?_
  refine EV.iload_n 7 rfl 2 rfl rfl dJ13_numberOfLeadingZeros_95d88_6 ?_
  refine EV.if_ne 10 21 rfl (by decide) dJ13_numberOfLeadingZeros_95d88_7 (fun c1 => ?_) (fun c1 => ?_)
  · have h := h.1 c1
    refine EV.iload_n 22 rfl 2 rfl rfl dJ13_numberOfLeadingZeros_95d88_21 ?_
    refine EV.cS rfl lk_J13_308 rfl (vs := [.int (Int64.toInt32 ((Int64.toUInt64 v0 >>> ((Int32.toInt64 32).toUInt64 &&& Int64.toUInt64 63)).toInt64))]) (st := []) rfl rfl (Nat.le_of_ble_eq_true rfl) dJ13_numberOfLeadingZeros_95d88_22 h (fun v σ2 h => ?_)
    obtain ⟨r3, rfl, h⟩ := h
    show EV Γ MJ13_numberOfLeadingZeros_95d88 d 25 [some (.long v0), none, some (.int (Int64.toInt32 ((Int64.toUInt64 v0 >>> ((Int32.toInt64 32).toUInt64 &&& Int64.toUInt64 63)).toInt64)))] [.int r3] σ2 Q
    exact EV.iret rfl dJ13_numberOfLeadingZeros_95d88_25 h
  · have h := h.2 c1
    refine EV.bipush 12 rfl dJ13_numberOfLeadingZeros_95d88_10 (v := 32) (by decide) ?_
    refine EV.lload_n 13 rfl 0 rfl rfl dJ13_numberOfLeadingZeros_95d88_12 ?_
    refine EV.l2i 14 rfl dJ13_numberOfLeadingZeros_95d88_13 ?_
    refine EV.cS rfl lk_J13_308 rfl (vs := [.int (Int64.toInt32 v0)]) (st := [.int 32]) rfl rfl (Nat.le_of_ble_eq_true rfl) dJ13_numberOfLeadingZeros_95d88_14 h (fun v σ4 h => ?_)
    obtain ⟨r5, rfl, h⟩ := h
    show EV Γ MJ13_numberOfLeadingZeros_95d88 d 17 [some (.long v0), none, some (.int (Int64.toInt32 ((Int64.toUInt64 v0 >>> ((Int32.toInt64 32).toUInt64 &&& Int64.toUInt64 63)).toInt64)))] [.int r5, .int 32] σ4 Q
    refine EV.iadd 18 rfl dJ13_numberOfLeadingZeros_95d88_17 ?_
    refine EV.goto 25 (by decide) dJ13_numberOfLeadingZeros_95d88_18 ?_
    exact EV.iret rfl dJ13_numberOfLeadingZeros_95d88_25 h
theorem eJ13_numberOfLeadingZeros_95d88 {Γ : Gm} {d : Nat} {σ : AH} {Q : Oc → AH → Prop} {v0 : Int64} (h : (((Int64.toInt32 ((Int64.toUInt64 v0 >>> ((Int32.toInt64 32).toUInt64 &&& Int64.toUInt64 63)).toInt64)) ≠ 0 → CI Γ d MJ6_numberOfLeadingZeros_0f7a4 [.int (Int64.toInt32 ((Int64.toUInt64 v0 >>> ((Int32.toInt64 32).toUInt64 &&& Int64.toUInt64 63)).toInt64))] σ (fun r3 σ2 => Q (.inl (some (.int r3))) σ2) (fun _ _ => False)) ∧ ((Int64.toInt32 ((Int64.toUInt64 v0 >>> ((Int32.toInt64 32).toUInt64 &&& Int64.toUInt64 63)).toInt64)) = 0 → CI Γ d MJ6_numberOfLeadingZeros_0f7a4 [.int (Int64.toInt32 v0)] σ (fun r5 σ4 => Q (.inl (some (.int ((32 : Int32) + r5)))) σ4) (fun _ _ => False)))) : RUN Γ d MJ13_numberOfLeadingZeros_95d88 [.long v0] σ Q :=
  EV.enter [some (.long v0), none, none] rfl (by decide +kernel) (Nat.le_of_ble_eq_true rfl) rfl (gJ13_numberOfLeadingZeros_95d88_0 h)
theorem gJ13_numberOfTrailingZeros_95d88_0 {Γ : Gm} {d : Nat} {σ : AH} {Q : Oc → AH → Prop} {v0 : Int64} (h : (((Int64.toInt32 v0) ≠ 0 → CI Γ d MJ6_numberOfTrailingZeros_0f7a4 [.int (Int64.toInt32 v0)] σ (fun r3 σ2 => Q (.inl (some (.int r3))) σ2) (fun _ _ => False)) ∧ ((Int64.toInt32 v0) = 0 → CI Γ d MJ6_numberOfTrailingZeros_0f7a4 [.int (Int64.toInt32 ((Int64.toUInt64 v0 >>> ((Int32.toInt64 32).toUInt64 &&& Int64.toUInt64 63)).toInt64))] σ (fun r5 σ4 => Q (.inl (some (.int ((32 : Int32) + r5)))) σ4) (fun _ _ => False)))) : EV Γ MJ13_numberOfTrailingZeros_95d88 d 0 [some (.long v0), none, none] [] σ Q := by
  refine EV.lload_n 1 rfl 0 rfl rfl dJ13_numberOfTrailingZeros_95d88_0 ?_
  refine EV.l2i 2 rfl dJ13_numberOfTrailingZeros_95d88_1 ?_
  refine EV.istore_n 3 rfl 2 [some (.long v0), none, some (.int (Int64.toInt32 v0))] rfl (by decide) rfl dJ13_numberOfTrailingZeros_95d88_2 ?_
  refine EV.iload_n 4 rfl 2 rfl rfl dJ13_numberOfTrailingZeros_95d88_3 ?_
  refine EV.if_ne 7 21 rfl (by decide) dJ13_numberOfTrailingZeros_95d88_4 (fun c1 => ?_) (fun c1 => ?_)
  · have h := h.1 c1
    refine EV.iload_n 22 rfl 2 rfl rfl dJ13_numberOfTrailingZeros_95d88_21 ?_
    refine EV.cS rfl lk_J13_311 rfl (vs := [.int (Int64.toInt32 v0)]) (st := []) rfl rfl (Nat.le_of_ble_eq_true rfl) dJ13_numberOfTrailingZeros_95d88_22 h (fun v σ2 h => ?_)
    obtain ⟨r3, rfl, h⟩ := h
    show EV Γ MJ13_numberOfTrailingZeros_95d88 d 25 [some (.long v0), none, some (.int (Int64.toInt32 v0))] [.int r3] σ2 Q
    exact EV.iret rfl dJ13_numberOfTrailingZeros_95d88_25 h
  · have h := h.2 c1
    refine EV.bipush 9 rfl dJ13_numberOfTrailingZeros_95d88_7 (v := 32) (by decide) ?_
    refine EV.lload_n 10 rfl 0 rfl rfl dJ13_numberOfTrailingZeros_95d88_9 ?_
    refine EV.bipush 12 rfl dJ13_numberOfTrailingZeros_95d88_10 (v := 32) (by decide) ?_
    refine EV.lushr 13 rfl dJ13_numberOfTrailingZeros_95d88_12 ?_
    refine EV.l2i 14 rfl dJ13_numberOfTrailingZeros_95d88_13 ?_
    refine EV.cS rfl lk_J13_311 rfl (vs := [.int (Int64.toInt32 ((Int64.toUInt64 v0 >>> ((Int32.toInt64 32).toUInt64 &&& Int64.toUInt64 63)).toInt64))]) (st := [.int 32]) rfl rfl (Nat.le_of_ble_eq_true rfl) dJ13_numberOfTrailingZeros_95d88_14 h (fun v σ4 h => ?_)
    obtain ⟨r5, rfl, h⟩ := h
    show EV Γ MJ13_numberOfTrailingZeros_95d88 d 17 [some (.long v0), none, some (.int (Int64.toInt32 v0))] [.int r5, .int 32] σ4 Q
    refine EV.iadd 18 rfl dJ13_numberOfTrailingZeros_95d88_17 ?_
    refine EV.goto 25 (by decide) dJ13_numberOfTrailingZeros_95d88_18 ?_
    exact EV.iret rfl dJ13_numberOfTrailingZeros_95d88_25 h
theorem eJ13_numberOfTrailingZeros_95d88 {Γ : Gm} {d : Nat} {σ : AH} {Q : Oc → AH → Prop} {v0 : Int64} (h : (((Int64.toInt32 v0) ≠ 0 → CI Γ d MJ6_numberOfTrailingZeros_0f7a4 [.int (Int64.toInt32 v0)] σ (fun r3 σ2 => Q (.inl (some (.int r3))) σ2) (fun _ _ => False)) ∧ ((Int64.toInt32 v0) = 0 → CI Γ d MJ6_numberOfTrailingZeros_0f7a4 [.int (Int64.toInt32 ((Int64.toUInt64 v0 >>> ((Int32.toInt64 32).toUInt64 &&& Int64.toUInt64 63)).toInt64))] σ (fun r5 σ4 => Q (.inl (some (.int ((32 : Int32) + r5)))) σ4) (fun _ _ => False)))) : RUN Γ d MJ13_numberOfTrailingZeros_95d88 [.long v0] σ Q :=
  EV.enter [some (.long v0), none, none] rfl (by decide +kernel) (Nat.le_of_ble_eq_true rfl) rfl (gJ13_numberOfTrailingZeros_95d88_0 h)
theorem gJ13_bitCount_95d88_0 {Γ : Gm} {d : Nat} {σ : AH} {Q : Oc → AH → Prop} {v0 : Int64} (h : Q (.inl (some (.int ((Int64.toInt32 ((((((((v0 - ((Int64.toUInt64 v0 >>> ((Int32.toInt64 1).toUInt64 &&& Int64.toUInt64 63)).toInt64 &&& 6148914691236517205)) &&& 3689348814741910323) + ((Int64.toUInt64 (v0 - ((Int64.toUInt64 v0 >>> ((Int32.toInt64 1).toUInt64 &&& Int64.toUInt64 63)).toInt64 &&& 6148914691236517205)) >>> ((Int32.toInt64 2).toUInt64 &&& Int64.toUInt64 63)).toInt64 &&& 3689348814741910323)) + (Int64.toUInt64 (((v0 - ((Int64.toUInt64 v0 >>> ((Int32.toInt64 1).toUInt64 &&& Int64.toUInt64 63)).toInt64 &&& 6148914691236517205)) &&& 3689348814741910323) + ((Int64.toUInt64 (v0 - ((Int64.toUInt64 v0 >>> ((Int32.toInt64 1).toUInt64 &&& Int64.toUInt64 63)).toInt64 &&& 6148914691236517205)) >>> ((Int32.toInt64 2).toUInt64 &&& Int64.toUInt64 63)).toInt64 &&& 3689348814741910323)) >>> ((Int32.toInt64 4).toUInt64 &&& Int64.toUInt64 63)).toInt64) &&& 1085102592571150095) + (Int64.toUInt64 (((((v0 - ((Int64.toUInt64 v0 >>> ((Int32.toInt64 1).toUInt64 &&& Int64.toUInt64 63)).toInt64 &&& 6148914691236517205)) &&& 3689348814741910323) + ((Int64.toUInt64 (v0 - ((Int64.toUInt64 v0 >>> ((Int32.toInt64 1).toUInt64 &&& Int64.toUInt64 63)).toInt64 &&& 6148914691236517205)) >>> ((Int32.toInt64 2).toUInt64 &&& Int64.toUInt64 63)).toInt64 &&& 3689348814741910323)) + (Int64.toUInt64 (((v0 - ((Int64.toUInt64 v0 >>> ((Int32.toInt64 1).toUInt64 &&& Int64.toUInt64 63)).toInt64 &&& 6148914691236517205)) &&& 3689348814741910323) + ((Int64.toUInt64 (v0 - ((Int64.toUInt64 v0 >>> ((Int32.toInt64 1).toUInt64 &&& Int64.toUInt64 63)).toInt64 &&& 6148914691236517205)) >>> ((Int32.toInt64 2).toUInt64 &&& Int64.toUInt64 63)).toInt64 &&& 3689348814741910323)) >>> ((Int32.toInt64 4).toUInt64 &&& Int64.toUInt64 63)).toInt64) &&& 1085102592571150095) >>> ((Int32.toInt64 8).toUInt64 &&& Int64.toUInt64 63)).toInt64) + (Int64.toUInt64 ((((((v0 - ((Int64.toUInt64 v0 >>> ((Int32.toInt64 1).toUInt64 &&& Int64.toUInt64 63)).toInt64 &&& 6148914691236517205)) &&& 3689348814741910323) + ((Int64.toUInt64 (v0 - ((Int64.toUInt64 v0 >>> ((Int32.toInt64 1).toUInt64 &&& Int64.toUInt64 63)).toInt64 &&& 6148914691236517205)) >>> ((Int32.toInt64 2).toUInt64 &&& Int64.toUInt64 63)).toInt64 &&& 3689348814741910323)) + (Int64.toUInt64 (((v0 - ((Int64.toUInt64 v0 >>> ((Int32.toInt64 1).toUInt64 &&& Int64.toUInt64 63)).toInt64 &&& 6148914691236517205)) &&& 3689348814741910323) + ((Int64.toUInt64 (v0 - ((Int64.toUInt64 v0 >>> ((Int32.toInt64 1).toUInt64 &&& Int64.toUInt64 63)).toInt64 &&& 6148914691236517205)) >>> ((Int32.toInt64 2).toUInt64 &&& Int64.toUInt64 63)).toInt64 &&& 3689348814741910323)) >>> ((Int32.toInt64 4).toUInt64 &&& Int64.toUInt64 63)).toInt64) &&& 1085102592571150095) + (Int64.toUInt64 (((((v0 - ((Int64.toUInt64 v0 >>> ((Int32.toInt64 1).toUInt64 &&& Int64.toUInt64 63)).toInt64 &&& 6148914691236517205)) &&& 3689348814741910323) + ((Int64.toUInt64 (v0 - ((Int64.toUInt64 v0 >>> ((Int32.toInt64 1).toUInt64 &&& Int64.toUInt64 63)).toInt64 &&& 6148914691236517205)) >>> ((Int32.toInt64 2).toUInt64 &&& Int64.toUInt64 63)).toInt64 &&& 3689348814741910323)) + (Int64.toUInt64 (((v0 - ((Int64.toUInt64 v0 >>> ((Int32.toInt64 1).toUInt64 &&& Int64.toUInt64 63)).toInt64 &&& 6148914691236517205)) &&& 3689348814741910323) + ((Int64.toUInt64 (v0 - ((Int64.toUInt64 v0 >>> ((Int32.toInt64 1).toUInt64 &&& Int64.toUInt64 63)).toInt64 &&& 6148914691236517205)) >>> ((Int32.toInt64 2).toUInt64 &&& Int64.toUInt64 63)).toInt64 &&& 3689348814741910323)) >>> ((Int32.toInt64 4).toUInt64 &&& Int64.toUInt64 63)).toInt64) &&& 1085102592571150095) >>> ((Int32.toInt64 8).toUInt64 &&& Int64.toUInt64 63)).toInt64) >>> ((Int32.toInt64 16).toUInt64 &&& Int64.toUInt64 63)).toInt64) + (Int64.toUInt64 (((((((v0 - ((Int64.toUInt64 v0 >>> ((Int32.toInt64 1).toUInt64 &&& Int64.toUInt64 63)).toInt64 &&& 6148914691236517205)) &&& 3689348814741910323) + ((Int64.toUInt64 (v0 - ((Int64.toUInt64 v0 >>> ((Int32.toInt64 1).toUInt64 &&& Int64.toUInt64 63)).toInt64 &&& 6148914691236517205)) >>> ((Int32.toInt64 2).toUInt64 &&& Int64.toUInt64 63)).toInt64 &&& 3689348814741910323)) + (Int64.toUInt64 (((v0 - ((Int64.toUInt64 v0 >>> ((Int32.toInt64 1).toUInt64 &&& Int64.toUInt64 63)).toInt64 &&& 6148914691236517205)) &&& 3689348814741910323) + ((Int64.toUInt64 (v0 - ((Int64.toUInt64 v0 >>> ((Int32.toInt64 1).toUInt64 &&& Int64.toUInt64 63)).toInt64 &&& 6148914691236517205)) >>> ((Int32.toInt64 2).toUInt64 &&& Int64.toUInt64 63)).toInt64 &&& 3689348814741910323)) >>> ((Int32.toInt64 4).toUInt64 &&& Int64.toUInt64 63)).toInt64) &&& 1085102592571150095) + (Int64.toUInt64 (((((v0 - ((Int64.toUInt64 v0 >>> ((Int32.toInt64 1).toUInt64 &&& Int64.toUInt64 63)).toInt64 &&& 6148914691236517205)) &&& 3689348814741910323) + ((Int64.toUInt64 (v0 - ((Int64.toUInt64 v0 >>> ((Int32.toInt64 1).toUInt64 &&& Int64.toUInt64 63)).toInt64 &&& 6148914691236517205)) >>> ((Int32.toInt64 2).toUInt64 &&& Int64.toUInt64 63)).toInt64 &&& 3689348814741910323)) + (Int64.toUInt64 (((v0 - ((Int64.toUInt64 v0 >>> ((Int32.toInt64 1).toUInt64 &&& Int64.toUInt64 63)).toInt64 &&& 6148914691236517205)) &&& 3689348814741910323) + ((Int64.toUInt64 (v0 - ((Int64.toUInt64 v0 >>> ((Int32.toInt64 1).toUInt64 &&& Int64.toUInt64 63)).toInt64 &&& 6148914691236517205)) >>> ((Int32.toInt64 2).toUInt64 &&& Int64.toUInt64 63)).toInt64 &&& 3689348814741910323)) >>> ((Int32.toInt64 4).toUInt64 &&& Int64.toUInt64 63)).toInt64) &&& 1085102592571150095) >>> ((Int32.toInt64 8).toUInt64 &&& Int64.toUInt64 63)).toInt64) + (Int64.toUInt64 ((((((v0 - ((Int64.toUInt64 v0 >>> ((Int32.toInt64 1).toUInt64 &&& Int64.toUInt64 63)).toInt64 &&& 6148914691236517205)) &&& 3689348814741910323) + ((Int64.toUInt64 (v0 - ((Int64.toUInt64 v0 >>> ((Int32.toInt64 1).toUInt64 &&& Int64.toUInt64 63)).toInt64 &&& 6148914691236517205)) >>> ((Int32.toInt64 2).toUInt64 &&& Int64.toUInt64 63)).toInt64 &&& 3689348814741910323)) + (Int64.toUInt64 (((v0 - ((Int64.toUInt64 v0 >>> ((Int32.toInt64 1).toUInt64 &&& Int64.toUInt64 63)).toInt64 &&& 6148914691236517205)) &&& 3689348814741910323) + ((Int64.toUInt64 (v0 - ((Int64.toUInt64 v0 >>> ((Int32.toInt64 1).toUInt64 &&& Int64.toUInt64 63)).toInt64 &&& 6148914691236517205)) >>> ((Int32.toInt64 2).toUInt64 &&& Int64.toUInt64 63)).toInt64 &&& 3689348814741910323)) >>> ((Int32.toInt64 4).toUInt64 &&& Int64.toUInt64 63)).toInt64) &&& 1085102592571150095) + (Int64.toUInt64 (((((v0 - ((Int64.toUInt64 v0 >>> ((Int32.toInt64 1).toUInt64 &&& Int64.toUInt64 63)).toInt64 &&& 6148914691236517205)) &&& 3689348814741910323) + ((Int64.toUInt64 (v0 - ((Int64.toUInt64 v0 >>> ((Int32.toInt64 1).toUInt64 &&& Int64.toUInt64 63)).toInt64 &&& 6148914691236517205)) >>> ((Int32.toInt64 2).toUInt64 &&& Int64.toUInt64 63)).toInt64 &&& 3689348814741910323)) + (Int64.toUInt64 (((v0 - ((Int64.toUInt64 v0 >>> ((Int32.toInt64 1).toUInt64 &&& Int64.toUInt64 63)).toInt64 &&& 6148914691236517205)) &&& 3689348814741910323) + ((Int64.toUInt64 (v0 - ((Int64.toUInt64 v0 >>> ((Int32.toInt64 1).toUInt64 &&& Int64.toUInt64 63)).toInt64 &&& 6148914691236517205)) >>> ((Int32.toInt64 2).toUInt64 &&& Int64.toUInt64 63)).toInt64 &&& 3689348814741910323)) >>> ((Int32.toInt64 4).toUInt64 &&& Int64.toUInt64 63)).toInt64) &&& 1085102592571150095) >>> ((Int32.toInt64 8).toUInt64 &&& Int64.toUInt64 63)).toInt64) >>> ((Int32.toInt64 16).toUInt64 &&& Int64.toUInt64 63)).toInt64) >>> ((Int32.toInt64 32).toUInt64 &&& Int64.toUInt64 63)).toInt64)) &&& 127)))) σ) : EV Γ MJ13_bitCount_95d88 d 0 [some (.long v0), none] [] σ Q := by
  refine EV.lload_n 1 rfl 0 rfl rfl dJ13_bitCount_95d88_0 ?_
  refine EV.lload_n 2 rfl 0 rfl rfl dJ13_bitCount_95d88_1 ?_
  refine EV.iconst 3 rfl dJ13_bitCount_95d88_2 (v := 1) (by decide) ?_
  refine EV.lushr 4 rfl dJ13_bitCount_95d88_3 ?_
  refine EV.ldc2 7 rfl k_J13_314 dJ13_bitCount_95d88_4 ?_
  refine EV.land 8 rfl dJ13_bitCount_95d88_7 ?_
  refine EV.lsub 9 rfl dJ13_bitCount_95d88_8 ?_
  refine EV.lstore_n 10 rfl 0 [some (.long (v0 - ((Int64.toUInt64 v0 >>> ((Int32.toInt64 1).toUInt64 &&& Int64.toUInt64 63)).toInt64 &&& 6148914691236517205))), none] rfl (by decide) rfl dJ13_bitCount_95d88_9 ?_
  refine EV.lload_n 11 rfl 0 rfl rfl dJ13_bitCount_95d88_10 ?_
  refine EV.ldc2 14 rfl k_J13_316 dJ13_bitCount_95d88_11 ?_
  refine EV.land 15 rfl dJ13_bitCount_95d88_14 ?_
  refine EV.lload_n 16 rfl 0 rfl rfl dJ13_bitCount_95d88_15 ?_
  refine EV.iconst 17 rfl dJ13_bitCount_95d88_16 (v := 2) (by decide) ?_
  refine EV.lushr 18 rfl dJ13_bitCount_95d88_17 ?_
  refine EV.ldc2 21 rfl k_J13_316 dJ13_bitCount_95d88_18 ?_
  refine EV.land 22 rfl dJ13_bitCount_95d88_21 ?_
  refine EV.ladd 23 rfl dJ13_bitCount_95d88_22 ?_
  refine EV.lstore_n 24 rfl 0 [some (.long (((v0 - ((Int64.toUInt64 v0 >>> ((Int32.toInt64 1).toUInt64 &&& Int64.toUInt64 63)).toInt64 &&& 6148914691236517205)) &&& 3689348814741910323) + ((Int64.toUInt64 (v0 - ((Int64.toUInt64 v0 >>> ((Int32.toInt64 1).toUInt64 &&& Int64.toUInt64 63)).toInt64 &&& 6148914691236517205)) >>> ((Int32.toInt64 2).toUInt64 &&& Int64.toUInt64 63)).toInt64 &&& 3689348814741910323))), none] rfl (by decide) rfl dJ13_bitCount_95d88_23 ?_
  refine EV.lload_n 25 rfl 0 rfl rfl dJ13_bitCount_95d88_24 ?_
  refine EV.lload_n 26 rfl 0 rfl rfl dJ13_bitCount_95d88_25 ?_
  refine EV.iconst 27 rfl dJ13_bitCount_95d88_26 (v := 4) (by decide) ?_
  refine EV.lushr 28 rfl dJ13_bitCount_95d88_27 ?_
  refine EV.ladd 29 rfl dJ13_bitCount_95d88_28 ?_
  refine EV.ldc2 32 rfl k_J13_318 dJ13_bitCount_95d88_29 ?_
  refine EV.land 33 rfl dJ13_bitCount_95d88_32 ?_
  refine EV.lstore_n 34 rfl 0 [some (.long (((((v0 - ((Int64.toUInt64 v0 >>> ((Int32.toInt64 1).toUInt64 &&& Int64.toUInt64 63)).toInt64 &&& 6148914691236517205)) &&& 3689348814741910323) + ((Int64.toUInt64 (v0 - ((Int64.toUInt64 v0 >>> ((Int32.toInt64 1).toUInt64 &&& Int64.toUInt64 63)).toInt64 &&& 6148914691236517205)) >>> ((Int32.toInt64 2).toUInt64 &&& Int64.toUInt64 63)).toInt64 &&& 3689348814741910323)) + (Int64.toUInt64 (((v0 - ((Int64.toUInt64 v0 >>> ((Int32.toInt64 1).toUInt64 &&& Int64.toUInt64 63)).toInt64 &&& 6148914691236517205)) &&& 3689348814741910323) + ((Int64.toUInt64 (v0 - ((Int64.toUInt64 v0 >>> ((Int32.toInt64 1).toUInt64 &&& Int64.toUInt64 63)).toInt64 &&& 6148914691236517205)) >>> ((Int32.toInt64 2).toUInt64 &&& Int64.toUInt64 63)).toInt64 &&& 3689348814741910323)) >>> ((Int32.toInt64 4).toUInt64 &&& Int64.toUInt64 63)).toInt64) &&& 1085102592571150095)), none] rfl (by decide) rfl dJ13_bitCount_95d88_33 ?_
  refine EV.lload_n 35 rfl 0 rfl rfl dJ13_bitCount_95d88_34 ?_
  refine EV.lload_n 36 rfl 0 rfl rfl dJ13_bitCount_95d88_35 ?_
  refine EV.bipush 38 rfl dJ13_bitCount_95d88_36 (v := 8) (by decide) ?_
  refine EV.lushr 39 rfl dJ13_bitCount_95d88_38 ?_
  refine EV.ladd 40 rfl dJ13_bitCount_95d88_39 ?_
  refine EV.lstore_n 41 rfl 0 [some (.long ((((((v0 - ((Int64.toUInt64 v0 >>> ((Int32.toInt64 1).toUInt64 &&& Int64.toUInt64 63)).toInt64 &&& 6148914691236517205)) &&& 3689348814741910323) + ((Int64.toUInt64 (v0 - ((Int64.toUInt64 v0 >>> ((Int32.toInt64 1).toUInt64 &&& Int64.toUInt64 63)).toInt64 &&& 6148914691236517205)) >>> ((Int32.toInt64 2).toUInt64 &&& Int64.toUInt64 63)).toInt64 &&& 3689348814741910323)) + (Int64.toUInt64 (((v0 - ((Int64.toUInt64 v0 >>> ((Int32.toInt64 1).toUInt64 &&& Int64.toUInt64 63)).toInt64 &&& 6148914691236517205)) &&& 3689348814741910323) + ((Int64.toUInt64 (v0 - ((Int64.toUInt64 v0 >>> ((Int32.toInt64 1).toUInt64 &&& Int64.toUInt64 63)).toInt64 &&& 6148914691236517205)) >>> ((Int32.toInt64 2).toUInt64 &&& Int64.toUInt64 63)).toInt64 &&& 3689348814741910323)) >>> ((Int32.toInt64 4).toUInt64 &&& Int64.toUInt64 63)).toInt64) &&& 1085102592571150095) + (Int64.toUInt64 (((((v0 - ((Int64.toUInt64 v0 >>> ((Int32.toInt64 1).toUInt64 &&& Int64.toUInt64 63)).toInt64 &&& 6148914691236517205)) &&& 3689348814741910323) + ((Int64.toUInt64 (v0 - ((Int64.toUInt64 v0 >>> ((Int32.toInt64 1).toUInt64 &&& Int64.toUInt64 63)).toInt64 &&& 6148914691236517205)) >>> ((Int32.toInt64 2).toUInt64 &&& Int64.toUInt64 63)).toInt64 &&& 3689348814741910323)) + (Int64.toUInt64 (((v0 - ((Int64.toUInt64 v0 >>> ((Int32.toInt64 1).toUInt64 &&& Int64.toUInt64 63)).toInt64 &&& 6148914691236517205)) &&& 3689348814741910323) + ((Int64.toUInt64 (v0 - ((Int64.toUInt64 v0 >>> ((Int32.toInt64 1).toUInt64 &&& Int64.toUInt64 63)).toInt64 &&& 6148914691236517205)) >>> ((Int32.toInt64 2).toUInt64 &&& Int64.toUInt64 63)).toInt64 &&& 3689348814741910323)) >>> ((Int32.toInt64 4).toUInt64 &&& Int64.toUInt64 63)).toInt64) &&& 1085102592571150095) >>> ((Int32.toInt64 8).toUInt64 &&& Int64.toUInt64 63)).toInt64)), none] rfl (by decide) rfl dJ13_bitCount_95d88_40 ?_
  refine EV.lload_n 42 rfl 0 rfl rfl dJ13_bitCount_95d88_41 ?_
  refine EV.lload_n 43 rfl 0 rfl rfl dJ13_bitCount_95d88_42 ?_
  refine EV.bipush 45 rfl dJ13_bitCount_95d88_43 (v := 16) (by decide) ?_
  refine EV.lushr 46 rfl dJ13_bitCount_95d88_45 ?_
  refine EV.ladd 47 rfl dJ13_bitCount_95d88_46 ?_
  refine EV.lstore_n 48 rfl 0 [some (.long (((((((v0 - ((Int64.toUInt64 v0 >>> ((Int32.toInt64 1).toUInt64 &&& Int64.toUInt64 63)).toInt64 &&& 6148914691236517205)) &&& 3689348814741910323) + ((Int64.toUInt64 (v0 - ((Int64.toUInt64 v0 >>> ((Int32.toInt64 1).toUInt64 &&& Int64.toUInt64 63)).toInt64 &&& 6148914691236517205)) >>> ((Int32.toInt64 2).toUInt64 &&& Int64.toUInt64 63)).toInt64 &&& 3689348814741910323)) + (Int64.toUInt64 (((v0 - ((Int64.toUInt64 v0 >>> ((Int32.toInt64 1).toUInt64 &&& Int64.toUInt64 63)).toInt64 &&& 6148914691236517205)) &&& 3689348814741910323) + ((Int64.toUInt64 (v0 - ((Int64.toUInt64 v0 >>> ((Int32.toInt64 1).toUInt64 &&& Int64.toUInt64 63)).toInt64 &&& 6148914691236517205)) >>> ((Int32.toInt64 2).toUInt64 &&& Int64.toUInt64 63)).toInt64 &&& 3689348814741910323)) >>> ((Int32.toInt64 4).toUInt64 &&& Int64.toUInt64 63)).toInt64) &&& 1085102592571150095) + (Int64.toUInt64 (((((v0 - ((Int64.toUInt64 v0 >>> ((Int32.toInt64 1).toUInt64 &&& Int64.toUInt64 63)).toInt64 &&& 6148914691236517205)) &&& 3689348814741910323) + ((Int64.toUInt64 (v0 - ((Int64.toUInt64 v0 >>> ((Int32.toInt64 1).toUInt64 &&& Int64.toUInt64 63)).toInt64 &&& 6148914691236517205)) >>> ((Int32.toInt64 2).toUInt64 &&& Int64.toUInt64 63)).toInt64 &&& 3689348814741910323)) + (Int64.toUInt64 (((v0 - ((Int64.toUInt64 v0 >>> ((Int32.toInt64 1).toUInt64 &&& Int64.toUInt64 63)).toInt64 &&& 6148914691236517205)) &&& 3689348814741910323) + ((Int64.toUInt64 (v0 - ((Int64.toUInt64 v0 >>> ((Int32.toInt64 1).toUInt64 &&& Int64.toUInt64 63)).toInt64 &&& 6148914691236517205)) >>> ((Int32.toInt64 2).toUInt64 &&& Int64.toUInt64 63)).toInt64 &&& 3689348814741910323)) >>> ((Int32.toInt64 4).toUInt64 &&& Int64.toUInt64 63)).toInt64) &&& 1085102592571150095) >>> ((Int32.toInt64 8).toUInt64 &&& Int64.toUInt64 63)).toInt64) + (Int64.toUInt64 ((((((v0 - ((Int64.toUInt64 v0 >>> ((Int32.toInt64 1).toUInt64 &&& Int64.toUInt64 63)).toInt64 &&& 6148914691236517205)) &&& 3689348814741910323) + ((Int64.toUInt64 (v0 - ((Int64.toUInt64 v0 >>> ((Int32.toInt64 1).toUInt64 &&& Int64.toUInt64 63)).toInt64 &&& 6148914691236517205)) >>> ((Int32.toInt64 2).toUInt64 &&& Int64.toUInt64 63)).toInt64 &&& 3689348814741910323)) + (Int64.toUInt64 (((v0 - ((Int64.toUInt64 v0 >>> ((Int32.toInt64 1).toUInt64 &&& Int64.toUInt64 63)).toInt64 &&& 6148914691236517205)) &&& 3689348814741910323) + ((Int64.toUInt64 (v0 - ((Int64.toUInt64 v0 >>> ((Int32.toInt64 1).toUInt64 &&& Int64.toUInt64 63)).toInt64 &&& 6148914691236517205)) >>> ((Int32.toInt64 2).toUInt64 &&& Int64.toUInt64 63)).toInt64 &&& 3689348814741910323)) >>> ((Int32.toInt64 4).toUInt64 &&& Int64.toUInt64 63)).toInt64) &&& 1085102592571150095) + (Int64.toUInt64 (((((v0 - ((Int64.toUInt64 v0 >>> ((Int32.toInt64 1).toUInt64 &&& Int64.toUInt64 63)).toInt64 &&& 6148914691236517205)) &&& 3689348814741910323) + ((Int64.toUInt64 (v0 - ((Int64.toUInt64 v0 >>> ((Int32.toInt64 1).toUInt64 &&& Int64.toUInt64 63)).toInt64 &&& 6148914691236517205)) >>> ((Int32.toInt64 2).toUInt64 &&& Int64.toUInt64 63)).toInt64 &&& 3689348814741910323)) + (Int64.toUInt64 (((v0 - ((Int64.toUInt64 v0 >>> ((Int32.toInt64 1).toUInt64 &&& Int64.toUInt64 63)).toInt64 &&& 6148914691236517205)) &&& 3689348814741910323) + ((Int64.toUInt64 (v0 - ((Int64.toUInt64 v0 >>> ((Int32.toInt64 1).toUInt64 &&& Int64.toUInt64 63)).toInt64 &&& 6148914691236517205)) >>> ((Int32.toInt64 2).toUInt64 &&& Int64.toUInt64 63)).toInt64 &&& 3689348814741910323)) >>> ((Int32.toInt64 4).toUInt64 &&& Int64.toUInt64 63)).toInt64) &&& 1085102592571150095) >>> ((Int32.toInt64 8).toUInt64 &&& Int64.toUInt64 63)).toInt64) >>> ((Int32.toInt64 16).toUInt64 &&& Int64.toUInt64 63)).toInt64)), none] rfl (by decide) rfl dJ13_bitCount_95d88_47 ?_
  refine EV.lload_n 49 rfl 0 rfl rfl dJ13_bitCount_95d88_48 ?_
  refine EV.lload_n 50 rfl 0 rfl rfl dJ13_bitCount_95d88_49 ?_
  refine EV.bipush 52 rfl dJ13_bitCount_95d88_50 (v := 32) (by decide) ?_
  refine EV.lushr 53 rfl dJ13_bitCount_95d88_52 ?_
  refine EV.ladd 54 rfl dJ13_bitCount_95d88_53 ?_
  refine EV.lstore_n 55 rfl 0 [some (.long ((((((((v0 - ((Int64.toUInt64 v0 >>> ((Int32.toInt64 1).toUInt64 &&& Int64.toUInt64 63)).toInt64 &&& 6148914691236517205)) &&& 3689348814741910323) + ((Int64.toUInt64 (v0 - ((Int64.toUInt64 v0 >>> ((Int32.toInt64 1).toUInt64 &&& Int64.toUInt64 63)).toInt64 &&& 6148914691236517205)) >>> ((Int32.toInt64 2).toUInt64 &&& Int64.toUInt64 63)).toInt64 &&& 3689348814741910323)) + (Int64.toUInt64 (((v0 - ((Int64.toUInt64 v0 >>> ((Int32.toInt64 1).toUInt64 &&& Int64.toUInt64 63)).toInt64 &&& 6148914691236517205)) &&& 3689348814741910323) + ((Int64.toUInt64 (v0 - ((Int64.toUInt64 v0 >>> ((Int32.toInt64 1).toUInt64 &&& Int64.toUInt64 63)).toInt64 &&& 6148914691236517205)) >>> ((Int32.toInt64 2).toUInt64 &&& Int64.toUInt64 63)).toInt64 &&& 3689348814741910323)) >>> ((Int32.toInt64 4).toUInt64 &&& Int64.toUInt64 63)).toInt64) &&& 1085102592571150095) + (Int64.toUInt64 (((((v0 - ((Int64.toUInt64 v0 >>> ((Int32.toInt64 1).toUInt64 &&& Int64.toUInt64 63)).toInt64 &&& 6148914691236517205)) &&& 3689348814741910323) + ((Int64.toUInt64 (v0 - ((Int64.toUInt64 v0 >>> ((Int32.toInt64 1).toUInt64 &&& Int64.toUInt64 63)).toInt64 &&& 6148914691236517205)) >>> ((Int32.toInt64 2).toUInt64 &&& Int64.toUInt64 63)).toInt64 &&& 3689348814741910323)) + (Int64.toUInt64 (((v0 - ((Int64.toUInt64 v0 >>> ((Int32.toInt64 1).toUInt64 &&& Int64.toUInt64 63)).toInt64 &&& 6148914691236517205)) &&& 3689348814741910323) + ((Int64.toUInt64 (v0 - ((Int64.toUInt64 v0 >>> ((Int32.toInt64 1).toUInt64 &&& Int64.toUInt64 63)).toInt64 &&& 6148914691236517205)) >>> ((Int32.toInt64 2).toUInt64 &&& Int64.toUInt64 63)).toInt64 &&& 3689348814741910323)) >>> ((Int32.toInt64 4).toUInt64 &&& Int64.toUInt64 63)).toInt64) &&& 1085102592571150095) >>> ((Int32.toInt64 8).toUInt64 &&& Int64.toUInt64 63)).toInt64) + (Int64.toUInt64 ((((((v0 - ((Int64.toUInt64 v0 >>> ((Int32.toInt64 1).toUInt64 &&& Int64.toUInt64 63)).toInt64 &&& 6148914691236517205)) &&& 3689348814741910323) + ((Int64.toUInt64 (v0 - ((Int64.toUInt64 v0 >>> ((Int32.toInt64 1).toUInt64 &&& Int64.toUInt64 63)).toInt64 &&& 6148914691236517205)) >>> ((Int32.toInt64 2).toUInt64 &&& Int64.toUInt64 63)).toInt64 &&& 3689348814741910323)) + (Int64.toUInt64 (((v0 - ((Int64.toUInt64 v0 >>> ((Int32.toInt64 1).toUInt64 &&& Int64.toUInt64 63)).toInt64 &&& 6148914691236517205)) &&& 3689348814741910323) + ((Int64.toUInt64 (v0 - ((Int64.toUInt64 v0 >>> ((Int32.toInt64 1).toUInt64 &&& Int64.toUInt64 63)).toInt64 &&& 6148914691236517205)) >>> ((Int32.toInt64 2).toUInt64 &&& Int64.toUInt64 63)).toInt64 &&& 3689348814741910323)) >>> ((Int32.toInt64 4).toUInt64 &&& Int64.toUInt64 63)).toInt64) &&& 1085102592571150095) + (Int64.toUInt64 (((((v0 - ((Int64.toUInt64 v0 >>> ((Int32.toInt64 1).toUInt64 &&& Int64.toUInt64 63)).toInt64 &&& 6148914691236517205)) &&& 3689348814741910323) + ((Int64.toUInt64 (v0 - ((Int64.toUInt64 v0 >>> ((Int32.toInt64 1).toUInt64 &&& Int64.toUInt64 63)).toInt64 &&& 6148914691236517205)) >>> ((Int32.toInt64 2).toUInt64 &&& Int64.toUInt64 63)).toInt64 &&& 3689348814741910323)) + (Int64.toUInt64 (((v0 - ((Int64.toUInt64 v0 >>> ((Int32.toInt64 1).toUInt64 &&& Int64.toUInt64 63)).toInt64 &&& 6148914691236517205)) &&& 3689348814741910323) + ((Int64.toUInt64 (v0 - ((Int64.toUInt64 v0 >>> ((Int32.toInt64 1).toUInt64 &&& Int64.toUInt64 63)).toInt64 &&& 6148914691236517205)) >>> ((Int32.toInt64 2).toUInt64 &&& Int64.toUInt64 63)).toInt64 &&& 3689348814741910323)) >>> ((Int32.toInt64 4).toUInt64 &&& Int64.toUInt64 63)).toInt64) &&& 1085102592571150095) >>> ((Int32.toInt64 8).toUInt64 &&& Int64.toUInt64 63)).toInt64) >>> ((Int32.toInt64 16).toUInt64 &&& Int64.toUInt64 63)).toInt64) + (Int64.toUInt64 (((((((v0 - ((Int64.toUInt64 v0 >>> ((Int32.toInt64 1).toUInt64 &&& Int64.toUInt64 63)).toInt64 &&& 6148914691236517205)) &&& 3689348814741910323) + ((Int64.toUInt64 (v0 - ((Int64.toUInt64 v0 >>> ((Int32.toInt64 1).toUInt64 &&& Int64.toUInt64 63)).toInt64 &&& 6148914691236517205)) >>> ((Int32.toInt64 2).toUInt64 &&& Int64.toUInt64 63)).toInt64 &&& 3689348814741910323)) + (Int64.toUInt64 (((v0 - ((Int64.toUInt64 v0 >>> ((Int32.toInt64 1).toUInt64 &&& Int64.toUInt64 63)).toInt64 &&& 6148914691236517205)) &&& 3689348814741910323) + ((Int64.toUInt64 (v0 - ((Int64.toUInt64 v0 >>> ((Int32.toInt64 1).toUInt64 &&& Int64.toUInt64 63)).toInt64 &&& 6148914691236517205)) >>> ((Int32.toInt64 2).toUInt64 &&& Int64.toUInt64 63)).toInt64 &&& 3689348814741910323)) >>> ((Int32.toInt64 4).toUInt64 &&& Int64.toUInt64 63)).toInt64) &&& 1085102592571150095) + (Int64.toUInt64 (((((v0 - ((Int64.toUInt64 v0 >>> ((Int32.toInt64 1).toUInt64 &&& Int64.toUInt64 63)).toInt64 &&& 6148914691236517205)) &&& 3689348814741910323) + ((Int64.toUInt64 (v0 - ((Int64.toUInt64 v0 >>> ((Int32.toInt64 1).toUInt64 &&& Int64.toUInt64 63)).toInt64 &&& 6148914691236517205)) >>> ((Int32.toInt64 2).toUInt64 &&& Int64.toUInt64 63)).toInt64 &&& 3689348814741910323)) + (Int64.toUInt64 (((v0 - ((Int64.toUInt64 v0 >>> ((Int32.toInt64 1).toUInt64 &&& Int64.toUInt64 63)).toInt64 &&& 6148914691236517205)) &&& 3689348814741910323) + ((Int64.toUInt64 (v0 - ((Int64.toUInt64 v0 >>> ((Int32.toInt64 1).toUInt64 &&& Int64.toUInt64 63)).toInt64 &&& 6148914691236517205)) >>> ((Int32.toInt64 2).toUInt64 &&& Int64.toUInt64 63)).toInt64 &&& 3689348814741910323)) >>> ((Int32.toInt64 4).toUInt64 &&& Int64.toUInt64 63)).toInt64) &&& 1085102592571150095) >>> ((Int32.toInt64 8).toUInt64 &&& Int64.toUInt64 63)).toInt64) + (Int64.toUInt64 ((((((v0 - ((Int64.toUInt64 v0 >>> ((Int32.toInt64 1).toUInt64 &&& Int64.toUInt64 63)).toInt64 &&& 6148914691236517205)) &&& 3689348814741910323) + ((Int64.toUInt64 (v0 - ((Int64.toUInt64 v0 >>> ((Int32.toInt64 1).toUInt64 &&& Int64.toUInt64 63)).toInt64 &&& 6148914691236517205)) >>> ((Int32.toInt64 2).toUInt64 &&& Int64.toUInt64 63)).toInt64 &&& 3689348814741910323)) + (Int64.toUInt64 (((v0 - ((Int64.toUInt64 v0 >>> ((Int32.toInt64 1).toUInt64 &&& Int64.toUInt64 63)).toInt64 &&& 6148914691236517205)) &&& 3689348814741910323) + ((Int64.toUInt64 (v0 - ((Int64.toUInt64 v0 >>> ((Int32.toInt64 1).toUInt64 &&& Int64.toUInt64 63)).toInt64 &&& 6148914691236517205)) >>> ((Int32.toInt64 2).toUInt64 &&& Int64.toUInt64 63)).toInt64 &&& 3689348814741910323)) >>> ((Int32.toInt64 4).toUInt64 &&& Int64.toUInt64 63)).toInt64) &&& 1085102592571150095) + (Int64.toUInt64 (((((v0 - ((Int64.toUInt64 v0 >>> ((Int32.toInt64 1).toUInt64 &&& Int64.toUInt64 63)).toInt64 &&& 6148914691236517205)) &&& 3689348814741910323) + ((Int64.toUInt64 (v0 - ((Int64.toUInt64 v0 >>> ((Int32.toInt64 1).toUInt64 &&& Int64.toUInt64 63)).toInt64 &&& 6148914691236517205)) >>> ((Int32.toInt64 2).toUInt64 &&& Int64.toUInt64 63)).toInt64 &&& 3689348814741910323)) + (Int64.toUInt64 (((v0 - ((Int64.toUInt64 v0 >>> ((Int32.toInt64 1).toUInt64 &&& Int64.toUInt64 63)).toInt64 &&& 6148914691236517205)) &&& 3689348814741910323) + ((Int64.toUInt64 (v0 - ((Int64.toUInt64 v0 >>> ((Int32.toInt64 1).toUInt64 &&& Int64.toUInt64 63)).toInt64 &&& 6148914691236517205)) >>> ((Int32.toInt64 2).toUInt64 &&& Int64.toUInt64 63)).toInt64 &&& 3689348814741910323)) >>> ((Int32.toInt64 4).toUInt64 &&& Int64.toUInt64 63)).toInt64) &&& 1085102592571150095) >>> ((Int32.toInt64 8).toUInt64 &&& Int64.toUInt64 63)).toInt64) >>> ((Int32.toInt64 16).toUInt64 &&& Int64.toUInt64 63)).toInt64) >>> ((Int32.toInt64 32).toUInt64 &&& Int64.toUInt64 63)).toInt64)), none] rfl (by decide) rfl dJ13_bitCount_95d88_54 ?_
  refine EV.lload_n 56 rfl 0 rfl rfl dJ13_bitCount_95d88_55 ?_
  refine EV.l2i 57 rfl dJ13_bitCount_95d88_56 ?_
  refine EV.bipush 59 rfl dJ13_bitCount_95d88_57 (v := 127) (by decide) ?_
  refine EV.iand 60 rfl dJ13_bitCount_95d88_59 ?_
  exact EV.iret rfl dJ13_bitCount_95d88_60 h
theorem eJ13_bitCount_95d88 {Γ : Gm} {d : Nat} {σ : AH} {Q : Oc → AH → Prop} {v0 : Int64} (h : Q (.inl (some (.int ((Int64.toInt32 ((((((((v0 - ((Int64.toUInt64 v0 >>> ((Int32.toInt64 1).toUInt64 &&& Int64.toUInt64 63)).toInt64 &&& 6148914691236517205)) &&& 3689348814741910323) + ((Int64.toUInt64 (v0 - ((Int64.toUInt64 v0 >>> ((Int32.toInt64 1).toUInt64 &&& Int64.toUInt64 63)).toInt64 &&& 6148914691236517205)) >>> ((Int32.toInt64 2).toUInt64 &&& Int64.toUInt64 63)).toInt64 &&& 3689348814741910323)) + (Int64.toUInt64 (((v0 - ((Int64.toUInt64 v0 >>> ((Int32.toInt64 1).toUInt64 &&& Int64.toUInt64 63)).toInt64 &&& 6148914691236517205)) &&& 3689348814741910323) + ((Int64.toUInt64 (v0 - ((Int64.toUInt64 v0 >>> ((Int32.toInt64 1).toUInt64 &&& Int64.toUInt64 63)).toInt64 &&& 6148914691236517205)) >>> ((Int32.toInt64 2).toUInt64 &&& Int64.toUInt64 63)).toInt64 &&& 3689348814741910323)) >>> ((Int32.toInt64 4).toUInt64 &&& Int64.toUInt64 63)).toInt64) &&& 1085102592571150095) + (Int64.toUInt64 (((((v0 - ((Int64.toUInt64 v0 >>> ((Int32.toInt64 1).toUInt64 &&& Int64.toUInt64 63)).toInt64 &&& 6148914691236517205)) &&& 3689348814741910323) + ((Int64.toUInt64 (v0 - ((Int64.toUInt64 v0 >>> ((Int32.toInt64 1).toUInt64 &&& Int64.toUInt64 63)).toInt64 &&& 6148914691236517205)) >>> ((Int32.toInt64 2).toUInt64 &&& Int64.toUInt64 63)).toInt64 &&& 3689348814741910323)) + (Int64.toUInt64 (((v0 - ((Int64.toUInt64 v0 >>> ((Int32.toInt64 1).toUInt64 &&& Int64.toUInt64 63)).toInt64 &&& 6148914691236517205)) &&& 3689348814741910323) + ((Int64.toUInt64 (v0 - ((Int64.toUInt64 v0 >>> ((Int32.toInt64 1).toUInt64 &&& Int64.toUInt64 63)).toInt64 &&& 6148914691236517205)) >>> ((Int32.toInt64 2).toUInt64 &&& Int64.toUInt64 63)).toInt64 &&& 3689348814741910323)) >>> ((Int32.toInt64 4).toUInt64 &&& Int64.toUInt64 63)).toInt64) &&& 1085102592571150095) >>> ((Int32.toInt64 8).toUInt64 &&& Int64.toUInt64 63)).toInt64) + (Int64.toUInt64 ((((((v0 - ((Int64.toUInt64 v0 >>> ((Int32.toInt64 1).toUInt64 &&& Int64.toUInt64 63)).toInt64 &&& 6148914691236517205)) &&& 3689348814741910323) + ((Int64.toUInt64 (v0 - ((Int64.toUInt64 v0 >>> ((Int32.toInt64 1).toUInt64 &&& Int64.toUInt64 63)).toInt64 &&& 6148914691236517205)) >>> ((Int32.toInt64 2).toUInt64 &&& Int64.toUInt64 63)).toInt64 &&& 3689348814741910323)) + (Int64.toUInt64 (((v0 - ((Int64.toUInt64 v0 >>> ((Int32.toInt64 1).toUInt64 &&& Int64.toUInt64 63)).toInt64 &&& 6148914691236517205)) &&& 3689348814741910323) + ((Int64.toUInt64 (v0 - ((Int64.toUInt64 v0 >>> ((Int32.toInt64 1).toUInt64 &&& Int64.toUInt64 63)).toInt64 &&& 6148914691236517205)) >>> ((Int32.toInt64 2).toUInt64 &&& Int64.toUInt64 63)).toInt64 &&& 3689348814741910323)) >>> ((Int32.toInt64 4).toUInt64 &&& Int64.toUInt64 63)).toInt64) &&& 1085102592571150095) + (Int64.toUInt64 (((((v0 - ((Int64.toUInt64 v0 >>> ((Int32.toInt64 1).toUInt64 &&& Int64.toUInt64 63)).toInt64 &&& 6148914691236517205)) &&& 3689348814741910323) + ((Int64.toUInt64 (v0 - ((Int64.toUInt64 v0 >>> ((Int32.toInt64 1).toUInt64 &&& Int64.toUInt64 63)).toInt64 &&& 6148914691236517205)) >>> ((Int32.toInt64 2).toUInt64 &&& Int64.toUInt64 63)).toInt64 &&& 3689348814741910323)) + (Int64.toUInt64 (((v0 - ((Int64.toUInt64 v0 >>> ((Int32.toInt64 1).toUInt64 &&& Int64.toUInt64 63)).toInt64 &&& 6148914691236517205)) &&& 3689348814741910323) + ((Int64.toUInt64 (v0 - ((Int64.toUInt64 v0 >>> ((Int32.toInt64 1).toUInt64 &&& Int64.toUInt64 63)).toInt64 &&& 6148914691236517205)) >>> ((Int32.toInt64 2).toUInt64 &&& Int64.toUInt64 63)).toInt64 &&& 3689348814741910323)) >>> ((Int32.toInt64 4).toUInt64 &&& Int64.toUInt64 63)).toInt64) &&& 1085102592571150095) >>> ((Int32.toInt64 8).toUInt64 &&& Int64.toUInt64 63)).toInt64) >>> ((Int32.toInt64 16).toUInt64 &&& Int64.toUInt64 63)).toInt64) + (Int64.toUInt64 (((((((v0 - ((Int64.toUInt64 v0 >>> ((Int32.toInt64 1).toUInt64 &&& Int64.toUInt64 63)).toInt64 &&& 6148914691236517205)) &&& 3689348814741910323) + ((Int64.toUInt64 (v0 - ((Int64.toUInt64 v0 >>> ((Int32.toInt64 1).toUInt64 &&& Int64.toUInt64 63)).toInt64 &&& 6148914691236517205)) >>> ((Int32.toInt64 2).toUInt64 &&& Int64.toUInt64 63)).toInt64 &&& 3689348814741910323)) + (Int64.toUInt64 (((v0 - ((Int64.toUInt64 v0 >>> ((Int32.toInt64 1).toUInt64 &&& Int64.toUInt64 63)).toInt64 &&& 6148914691236517205)) &&& 3689348814741910323) + ((Int64.toUInt64 (v0 - ((Int64.toUInt64 v0 >>> ((Int32.toInt64 1).toUInt64 &&& Int64.toUInt64 63)).toInt64 &&& 6148914691236517205)) >>> ((Int32.toInt64 2).toUInt64 &&& Int64.toUInt64 63)).toInt64 &&& 3689348814741910323)) >>> ((Int32.toInt64 4).toUInt64 &&& Int64.toUInt64 63)).toInt64) &&& 1085102592571150095) + (Int64.toUInt64 (((((v0 - ((Int64.toUInt64 v0 >>> ((Int32.toInt64 1).toUInt64 &&& Int64.toUInt64 63)).toInt64 &&& 6148914691236517205)) &&& 3689348814741910323) + ((Int64.toUInt64 (v0 - ((Int64.toUInt64 v0 >>> ((Int32.toInt64 1).toUInt64 &&& Int64.toUInt64 63)).toInt64 &&& 6148914691236517205)) >>> ((Int32.toInt64 2).toUInt64 &&& Int64.toUInt64 63)).toInt64 &&& 3689348814741910323)) + (Int64.toUInt64 (((v0 - ((Int64.toUInt64 v0 >>> ((Int32.toInt64 1).toUInt64 &&& Int64.toUInt64 63)).toInt64 &&& 6148914691236517205)) &&& 3689348814741910323) + ((Int64.toUInt64 (v0 - ((Int64.toUInt64 v0 >>> ((Int32.toInt64 1).toUInt64 &&& Int64.toUInt64 63)).toInt64 &&& 6148914691236517205)) >>> ((Int32.toInt64 2).toUInt64 &&& Int64.toUInt64 63)).toInt64 &&& 3689348814741910323)) >>> ((Int32.toInt64 4).toUInt64 &&& Int64.toUInt64 63)).toInt64) &&& 1085102592571150095) >>> ((Int32.toInt64 8).toUInt64 &&& Int64.toUInt64 63)).toInt64) + (Int64.toUInt64 ((((((v0 - ((Int64.toUInt64 v0 >>> ((Int32.toInt64 1).toUInt64 &&& Int64.toUInt64 63)).toInt64 &&& 6148914691236517205)) &&& 3689348814741910323) + ((Int64.toUInt64 (v0 - ((Int64.toUInt64 v0 >>> ((Int32.toInt64 1).toUInt64 &&& Int64.toUInt64 63)).toInt64 &&& 6148914691236517205)) >>> ((Int32.toInt64 2).toUInt64 &&& Int64.toUInt64 63)).toInt64 &&& 3689348814741910323)) + (Int64.toUInt64 (((v0 - ((Int64.toUInt64 v0 >>> ((Int32.toInt64 1).toUInt64 &&& Int64.toUInt64 63)).toInt64 &&& 6148914691236517205)) &&& 3689348814741910323) + ((Int64.toUInt64 (v0 - ((Int64.toUInt64 v0 >>> ((Int32.toInt64 1).toUInt64 &&& Int64.toUInt64 63)).toInt64 &&& 6148914691236517205)) >>> ((Int32.toInt64 2).toUInt64 &&& Int64.toUInt64 63)).toInt64 &&& 3689348814741910323)) >>> ((Int32.toInt64 4).toUInt64 &&& Int64.toUInt64 63)).toInt64) &&& 1085102592571150095) + (Int64.toUInt64 (((((v0 - ((Int64.toUInt64 v0 >>> ((Int32.toInt64 1).toUInt64 &&& Int64.toUInt64 63)).toInt64 &&& 6148914691236517205)) &&& 3689348814741910323) + ((Int64.toUInt64 (v0 - ((Int64.toUInt64 v0 >>> ((Int32.toInt64 1).toUInt64 &&& Int64.toUInt64 63)).toInt64 &&& 6148914691236517205)) >>> ((Int32.toInt64 2).toUInt64 &&& Int64.toUInt64 63)).toInt64 &&& 3689348814741910323)) + (Int64.toUInt64 (((v0 - ((Int64.toUInt64 v0 >>> ((Int32.toInt64 1).toUInt64 &&& Int64.toUInt64 63)).toInt64 &&& 6148914691236517205)) &&& 3689348814741910323) + ((Int64.toUInt64 (v0 - ((Int64.toUInt64 v0 >>> ((Int32.toInt64 1).toUInt64 &&& Int64.toUInt64 63)).toInt64 &&& 6148914691236517205)) >>> ((Int32.toInt64 2).toUInt64 &&& Int64.toUInt64 63)).toInt64 &&& 3689348814741910323)) >>> ((Int32.toInt64 4).toUInt64 &&& Int64.toUInt64 63)).toInt64) &&& 1085102592571150095) >>> ((Int32.toInt64 8).toUInt64 &&& Int64.toUInt64 63)).toInt64) >>> ((Int32.toInt64 16).toUInt64 &&& Int64.toUInt64 63)).toInt64) >>> ((Int32.toInt64 32).toUInt64 &&& Int64.toUInt64 63)).toInt64)) &&& 127)))) σ) : RUN Γ d MJ13_bitCount_95d88 [.long v0] σ Q :=
  EV.enter [some (.long v0), none] rfl (by decide +kernel) (Nat.le_of_ble_eq_true rfl) rfl (gJ13_bitCount_95d88_0 h)
theorem gJ7_fill_d0a16_0 {Γ : Gm} {d : Nat} {σ : AH} {Q : Oc → AH → Prop} {v0 : Nat} {v1 : Int64} (h : ∃ n2 : Nat, hs σ v0 = some (23, n2) ∧ EV Γ MJ7_fill_d0a16 d 6 [some (.ref v0), some (.long v1), none, some (.int 0), some (.int (nI n2))] [] σ Q) : EV Γ MJ7_fill_d0a16 d 0 [some (.ref v0), some (.long v1), none, none, none] [] σ Q := by
  refine EV.iconst 1 rfl dJ7_fill_d0a16_0 (v := 0) (by decide) ?_
  refine EV.istore_n 2 rfl 3 [some (.ref v0), some (.long v1), none, some (.int 0), none] rfl (by decide) rfl dJ7_fill_d0a16_1 ?_
  refine EV.aload_n 3 rfl 0 rfl rfl dJ7_fill_d0a16_2 ?_
  obtain ⟨n2, w1, h⟩ := h
  refine EV.alenJ 4 rfl dJ7_fill_d0a16_3 w1 ?_
  refine EV.istore 6 rfl [some (.ref v0), some (.long v1), none, some (.int 0), some (.int (nI n2))] (by decide) rfl dJ7_fill_d0a16_4 ?_
  exact h
theorem eJ7_fill_d0a16 {Γ : Gm} {d : Nat} {σ : AH} {Q : Oc → AH → Prop} {v0 : Nat} {v1 : Int64} (h : ∃ n2 : Nat, hs σ v0 = some (23, n2) ∧ EV Γ MJ7_fill_d0a16 d 6 [some (.ref v0), some (.long v1), none, some (.int 0), some (.int (nI n2))] [] σ Q) : RUN Γ d MJ7_fill_d0a16 [.ref v0, .long v1] σ Q :=
  EV.enter [some (.ref v0), some (.long v1), none, none, none] rfl (by decide +kernel) (Nat.le_of_ble_eq_true rfl) rfl (gJ7_fill_d0a16_0 h)
theorem gJ7_fill_d0a16_6 {Γ : Gm} {d : Nat} {σ : AH} {Q : Oc → AH → Prop} {v0 : Nat} {v1 : Int64} {v3 : Int32} {v4 : Int32} (h : ((v4 ≤ v3 → Q (.inl none) σ) ∧ (¬ v4 ≤ v3 → ∃ n3 : Nat, hs σ v0 = some (23, n3) ∧ ∃ j4 : Nat, IX v3 n3 j4 ∧ ∀ σ6 : AH, σ6 = setJ σ v0 j4 v1 → EV Γ MJ7_fill_d0a16 d 6 [some (.ref v0), some (.long v1), none, some (.int (v3 + 1)), some (.int v4)] [] σ6 Q))) : EV Γ MJ7_fill_d0a16 d 6 [some (.ref v0), some (.long v1), none, some (.int v3), some (.int v4)] [] σ Q := by
  refine EV.iload_n 7 rfl 3 rfl rfl dJ7_fill_d0a16_6 ?_
  refine EV.iload 9 rfl rfl dJ7_fill_d0a16_7 ?_
  refine EV.icmp_ge 12 22 rfl (by decide) dJ7_fill_d0a16_9 (fun c1 => ?_) (fun c1 => ?_)
  · have h := h.1 c1
    exact EV.vret rfl dJ7_fill_d0a16_22 h
  · have h := h.2 c1
    refine EV.aload_n 13 rfl 0 rfl rfl dJ7_fill_d0a16_12 ?_
    refine EV.iload_n 14 rfl 3 rfl rfl dJ7_fill_d0a16_13 ?_
    refine EV.lload_n 15 rfl 1 rfl rfl dJ7_fill_d0a16_14 ?_
    obtain ⟨n3, w2, h⟩ := h
    obtain ⟨j4, x5, h⟩ := h
    refine EV.last 16 rfl dJ7_fill_d0a16_15 w2 x5 (EV.nm (fun σ6 e7 => ?_))
    have h := h σ6 e7
    have w8 := tr_hs (hs_setJ_of e7) w2
    refine EV.iinc 19 rfl [some (.ref v0), some (.long v1), none, some (.int (v3 + 1)), some (.int v4)] (v := 1) (by decide) (by decide) rfl rfl dJ7_fill_d0a16_16 ?_
    refine EV.goto 6 (by decide) dJ7_fill_d0a16_19 ?_
    exact h
