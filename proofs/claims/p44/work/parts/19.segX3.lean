theorem gX3_init_0 {Γ : Gm} {d : Nat} {σ : AH} {Q : Oc → AH → Prop} {v0 : Nat} {v1 : Nat} (h : 1 ≤ d ∧ ∀ (q2 : Nat) (σ3 : AH), q2 = lo Γ + hc σ → σ3 = mk σ q2 23 64 → hs σ3 v0 = some (3, 8) ∧ ∀ σ6 : AH, σ6 = setR σ3 v0 1 (some q2) → ∀ (q10 : Nat) (σ11 : AH), q10 = lo Γ + hc σ6 → σ11 = mk σ6 q10 22 64 → hs σ11 v0 = some (3, 8) ∧ ∀ σ14 : AH, σ14 = setR σ11 v0 2 (some q10) → ∀ (q18 : Nat) (σ19 : AH), q18 = lo Γ + hc σ14 → σ19 = mk σ14 q18 22 64 → hs σ19 v0 = some (3, 8) ∧ ∀ σ22 : AH, σ22 = setR σ19 v0 3 (some q18) → ∀ (q26 : Nat) (σ27 : AH), q26 = lo Γ + hc σ22 → σ27 = mk σ22 q26 22 128 → hs σ27 v0 = some (3, 8) ∧ ∀ σ30 : AH, σ30 = setR σ27 v0 4 (some q26) → ∀ σ34 : AH, σ34 = setI σ30 v0 5 2 → ∀ σ38 : AH, σ38 = setI σ34 v0 6 0 → ∀ σ42 : AH, σ42 = setI σ38 v0 7 0 → ∀ σ46 : AH, σ46 = setR σ42 v0 0 (some v1) → Q (.inl none) σ46) : EV Γ MX3_init d 0 [some (.ref v0), some (.ref v1)] [] σ Q := by
  refine EV.aload_n 1 rfl 0 rfl rfl dX3_init_0 ?_
  obtain ⟨z1, h⟩ := h
  refine EV.objInit 4 rfl oi_X3_3 z1 (Nat.le_of_ble_eq_true rfl) dX3_init_1 ?_
  refine EV.aload_n 5 rfl 0 rfl rfl dX3_init_4 ?_
  refine EV.bipush 7 rfl dX3_init_5 (v := 64) (by decide) ?_
  refine EV.newJ 9 rfl (n := 64) ac_long dX3_init_7 (by decide) (Nat.le_of_ble_eq_true rfl) (EV.nq (fun q2 σ3 eq2 eσ3 => ?_))
  have h := h q2 σ3 eq2 eσ3
  have w4 : hs σ3 q2 = some (23, 64) := by rw [eσ3]; exact up_same _ _ _
  obtain ⟨w5, h⟩ := h
  refine EV.putR 12 rfl fw_X3_11 rfl (by decide) dX3_init_9 w5 (EV.nm (fun σ6 e7 => ?_))
  have h := h σ6 e7
  have w8 := tr_hs (hs_setR_of e7) w4
  have w9 := tr_hs (hs_setR_of e7) w5
  refine EV.aload_n 13 rfl 0 rfl rfl dX3_init_12 ?_
  refine EV.bipush 15 rfl dX3_init_13 (v := 64) (by decide) ?_
  refine EV.newI 17 rfl (n := 64) ac_int dX3_init_15 (by decide) (Nat.le_of_ble_eq_true rfl) (EV.nq (fun q10 σ11 eq10 eσ11 => ?_))
  have h := h q10 σ11 eq10 eσ11
  have w12 : hs σ11 q10 = some (22, 64) := by rw [eσ11]; exact up_same _ _ _
  obtain ⟨w13, h⟩ := h
  refine EV.putR 20 rfl fw_X3_15 rfl (by decide) dX3_init_17 w13 (EV.nm (fun σ14 e15 => ?_))
  have h := h σ14 e15
  have w16 := tr_hs (hs_setR_of e15) w12
  have w17 := tr_hs (hs_setR_of e15) w13
  refine EV.aload_n 21 rfl 0 rfl rfl dX3_init_20 ?_
  refine EV.bipush 23 rfl dX3_init_21 (v := 64) (by decide) ?_
  refine EV.newI 25 rfl (n := 64) ac_int dX3_init_23 (by decide) (Nat.le_of_ble_eq_true rfl) (EV.nq (fun q18 σ19 eq18 eσ19 => ?_))
  have h := h q18 σ19 eq18 eσ19
  have w20 : hs σ19 q18 = some (22, 64) := by rw [eσ19]; exact up_same _ _ _
  obtain ⟨w21, h⟩ := h
  refine EV.putR 28 rfl fw_X3_19 rfl (by decide) dX3_init_25 w21 (EV.nm (fun σ22 e23 => ?_))
  have h := h σ22 e23
  have w24 := tr_hs (hs_setR_of e23) w20
  have w25 := tr_hs (hs_setR_of e23) w21
  refine EV.aload_n 29 rfl 0 rfl rfl dX3_init_28 ?_
  refine EV.sipush 32 rfl dX3_init_29 (v := 128) (by decide) ?_
  refine EV.newI 34 rfl (n := 128) ac_int dX3_init_32 (by decide) (Nat.le_of_ble_eq_true rfl) (EV.nq (fun q26 σ27 eq26 eσ27 => ?_))
  have h := h q26 σ27 eq26 eσ27
  have w28 : hs σ27 q26 = some (22, 128) := by rw [eσ27]; exact up_same _ _ _
  obtain ⟨w29, h⟩ := h
  refine EV.putR 37 rfl fw_X3_22 rfl (by decide) dX3_init_34 w29 (EV.nm (fun σ30 e31 => ?_))
  have h := h σ30 e31
  have w32 := tr_hs (hs_setR_of e31) w28
  have w33 := tr_hs (hs_setR_of e31) w29
  refine EV.aload_n 38 rfl 0 rfl rfl dX3_init_37 ?_
  refine EV.iconst 39 rfl dX3_init_38 (v := 2) (by decide) ?_
  refine EV.putI 42 rfl fw_X3_25 rfl (by decide) dX3_init_39 w33 (EV.nm (fun σ34 e35 => ?_))
  have h := h σ34 e35
  have w36 := tr_hs (hs_setI_of e35) w32
  have w37 := tr_hs (hs_setI_of e35) w33
  refine EV.aload_n 43 rfl 0 rfl rfl dX3_init_42 ?_
  refine EV.iconst 44 rfl dX3_init_43 (v := 0) (by decide) ?_
  refine EV.putI 47 rfl fw_X3_29 rfl (by decide) dX3_init_44 w37 (EV.nm (fun σ38 e39 => ?_))
  have h := h σ38 e39
  have w40 := tr_hs (hs_setI_of e39) w36
  have w41 := tr_hs (hs_setI_of e39) w37
  refine EV.aload_n 48 rfl 0 rfl rfl dX3_init_47 ?_
  refine EV.iconst 49 rfl dX3_init_48 (v := 0) (by decide) ?_
  refine EV.putI 52 rfl fw_X3_32 rfl (by decide) dX3_init_49 w41 (EV.nm (fun σ42 e43 => ?_))
  have h := h σ42 e43
  have w44 := tr_hs (hs_setI_of e43) w40
  have w45 := tr_hs (hs_setI_of e43) w41
  refine EV.aload_n 53 rfl 0 rfl rfl dX3_init_52 ?_
  refine EV.aload_n 54 rfl 1 rfl rfl dX3_init_53 ?_
  refine EV.putFR 57 rfl rfl ff_X3_35 rfl (by decide) dX3_init_54 w45 (EV.nm (fun σ46 e47 => ?_))
  have h := h σ46 e47
  have w48 := tr_hs (hs_setR_of e47) w44
  have w49 := tr_hs (hs_setR_of e47) w45
  exact EV.vret rfl dX3_init_57 h
theorem eX3_init {Γ : Gm} {d : Nat} {σ : AH} {Q : Oc → AH → Prop} {v0 : Nat} {v1 : Nat} (h : 1 ≤ d ∧ ∀ (q2 : Nat) (σ3 : AH), q2 = lo Γ + hc σ → σ3 = mk σ q2 23 64 → hs σ3 v0 = some (3, 8) ∧ ∀ σ6 : AH, σ6 = setR σ3 v0 1 (some q2) → ∀ (q10 : Nat) (σ11 : AH), q10 = lo Γ + hc σ6 → σ11 = mk σ6 q10 22 64 → hs σ11 v0 = some (3, 8) ∧ ∀ σ14 : AH, σ14 = setR σ11 v0 2 (some q10) → ∀ (q18 : Nat) (σ19 : AH), q18 = lo Γ + hc σ14 → σ19 = mk σ14 q18 22 64 → hs σ19 v0 = some (3, 8) ∧ ∀ σ22 : AH, σ22 = setR σ19 v0 3 (some q18) → ∀ (q26 : Nat) (σ27 : AH), q26 = lo Γ + hc σ22 → σ27 = mk σ22 q26 22 128 → hs σ27 v0 = some (3, 8) ∧ ∀ σ30 : AH, σ30 = setR σ27 v0 4 (some q26) → ∀ σ34 : AH, σ34 = setI σ30 v0 5 2 → ∀ σ38 : AH, σ38 = setI σ34 v0 6 0 → ∀ σ42 : AH, σ42 = setI σ38 v0 7 0 → ∀ σ46 : AH, σ46 = setR σ42 v0 0 (some v1) → Q (.inl none) σ46) : RUN Γ d MX3_init [.ref v0, .ref v1] σ Q :=
  EV.enter [some (.ref v0), some (.ref v1)] rfl (by decide +kernel) (Nat.le_of_ble_eq_true rfl) rfl (gX3_init_0 h)
theorem gX3_visit_0 {Γ : Gm} {d : Nat} {σ : AH} {Q : Oc → AH → Prop} {v0 : Nat} {v1 : Nat} {v2 : Int32} (h : CI Γ d MX7_span [.ref v1] σ (fun r2 σ1 => EV Γ MX3_visit d 8 [some (.ref v0), some (.ref v1), some (.int v2), some (.int r2), some (.int 0), none, none, none, none] [] σ1 Q) (fun _ _ => False)) : EV Γ MX3_visit d 0 [some (.ref v0), some (.ref v1), some (.int v2), none, none, none, none, none, none] [] σ Q := by
  refine EV.aload_n 1 rfl 1 rfl rfl dX3_visit_0 ?_
  refine EV.cS rfl lk_X3_38 rfl (vs := [.ref v1]) (st := []) rfl rfl (Nat.le_of_ble_eq_true rfl) dX3_visit_1 h (fun v σ1 h => ?_)
  obtain ⟨r2, rfl, h⟩ := h
  show EV Γ MX3_visit d 4 [some (.ref v0), some (.ref v1), some (.int v2), none, none, none, none, none, none] [.int r2] σ1 Q
  refine EV.istore_n 5 rfl 3 [some (.ref v0), some (.ref v1), some (.int v2), some (.int r2), none, none, none, none, none] rfl (by decide) rfl dX3_visit_4 ?_
  refine EV.iconst 6 rfl dX3_visit_5 (v := 0) (by decide) ?_
  refine EV.istore 8 rfl [some (.ref v0), some (.ref v1), some (.int v2), some (.int r2), some (.int 0), none, none, none, none] (by decide) rfl dX3_visit_6 ?_
  exact h
theorem eX3_visit {Γ : Gm} {d : Nat} {σ : AH} {Q : Oc → AH → Prop} {v0 : Nat} {v1 : Nat} {v2 : Int32} (h : CI Γ d MX7_span [.ref v1] σ (fun r2 σ1 => EV Γ MX3_visit d 8 [some (.ref v0), some (.ref v1), some (.int v2), some (.int r2), some (.int 0), none, none, none, none] [] σ1 Q) (fun _ _ => False)) : RUN Γ d MX3_visit [.ref v0, .ref v1, .int v2] σ Q :=
  EV.enter [some (.ref v0), some (.ref v1), some (.int v2), none, none, none, none, none, none] rfl (by decide +kernel) (Nat.le_of_ble_eq_true rfl) rfl (gX3_visit_0 h)
theorem gX3_visit_8 {Γ : Gm} {d : Nat} {σ : AH} {Q : Oc → AH → Prop} {v0 : Nat} {v1 : Nat} {v2 : Int32} {v3 : Int32} {v4 : Int32} (h : ((v3 ≤ v4 → EV Γ MX3_visit d 51 [some (.ref v0), none, some (.int v2), some (.int v3), none, none, none, none, none] [] σ Q) ∧ (¬ v3 ≤ v4 → hs σ v0 = some (3, 8) ∧ ∃ t3 : Nat, gr σ v0 0 = some t3 ∧ ∃ n6 : Nat, hs σ t3 = some (22, n6) ∧ (((nI n6) ≤ v4 → EV Γ MX3_visit d 51 [some (.ref v0), none, some (.int v2), some (.int v3), none, none, none, none, none] [] σ Q) ∧ (¬ (nI n6) ≤ v4 → CI Γ d MX7_has [.ref v1, .int v4] σ (fun r9 σ8 => ((r9 = 0 → ∃ n12 : Nat, hs σ8 t3 = some (22, n12) ∧ ∃ j13 : Nat, IX v4 n12 j13 ∧ ∀ σ15 : AH, σ15 = setI σ8 t3 j13 0 → EV Γ MX3_visit d 8 [some (.ref v0), some (.ref v1), some (.int v2), some (.int v3), some (.int (v4 + 1)), none, none, none, none] [] σ15 Q) ∧ (¬ r9 = 0 → ∃ n19 : Nat, hs σ8 t3 = some (22, n19) ∧ ∃ j20 : Nat, IX v4 n19 j20 ∧ ∀ σ22 : AH, σ22 = setI σ8 t3 j20 1 → EV Γ MX3_visit d 8 [some (.ref v0), some (.ref v1), some (.int v2), some (.int v3), some (.int (v4 + 1)), none, none, none, none] [] σ22 Q))) (fun _ _ => False)))))) : EV Γ MX3_visit d 8 [some (.ref v0), some (.ref v1), some (.int v2), some (.int v3), some (.int v4), none, none, none, none] [] σ Q := by
  refine EV.iload 10 rfl rfl dX3_visit_8 ?_
  refine EV.iload_n 11 rfl 3 rfl rfl dX3_visit_10 ?_
  refine EV.icmp_ge 14 51 rfl (by decide) dX3_visit_11 (fun c1 => ?_) (fun c1 => ?_)
  · have h := h.1 c1
    refine EV.mask [true, false, true, true, false, false, false, false, false] (L' := [some (.ref v0), none, some (.int v2), some (.int v3), none, none, none, none, none]) rfl ?_
    exact h
  · have h := h.2 c1
    refine EV.iload 16 rfl rfl dX3_visit_14 ?_
    refine EV.aload_n 17 rfl 0 rfl rfl dX3_visit_16 ?_
    obtain ⟨w2, h⟩ := h
    obtain ⟨t3, g4, h⟩ := h
    refine EV.getR 20 rfl fl_X3_35 rfl dX3_visit_17 w2 g4 ?_
    obtain ⟨n6, w5, h⟩ := h
    refine EV.alenI 21 rfl dX3_visit_20 w5 ?_
    refine EV.icmp_ge 24 51 rfl (by decide) dX3_visit_21 (fun c7 => ?_) (fun c7 => ?_)
    · have h := h.1 c7
      refine EV.mask [true, false, true, true, false, false, false, false, false] (L' := [some (.ref v0), none, some (.int v2), some (.int v3), none, none, none, none, none]) rfl ?_
      exact h
    · have h := h.2 c7
      refine EV.aload_n 25 rfl 0 rfl rfl dX3_visit_24 ?_
      refine EV.getR 28 rfl fl_X3_35 rfl dX3_visit_25 w2 g4 ?_
      refine EV.iload 30 rfl rfl dX3_visit_28 ?_
      refine EV.aload_n 31 rfl 1 rfl rfl dX3_visit_30 ?_
      refine EV.iload 33 rfl rfl dX3_visit_31 ?_
      refine EV.cS rfl lk_X3_44 rfl (vs := [.ref v1, .int v4]) (st := [.int v4, .ref t3]) rfl rfl (Nat.le_of_ble_eq_true rfl) dX3_visit_33 h (fun v σ8 h => ?_)
      obtain ⟨r9, rfl, h⟩ := h
      show EV Γ MX3_visit d 36 [some (.ref v0), some (.ref v1), some (.int v2), some (.int v3), some (.int v4), none, none, none, none] [.int r9, .int v4, .ref t3] σ8 Q
      refine EV.if_eq 39 43 rfl (by decide) dX3_visit_36 (fun c10 => ?_) (fun c10 => ?_)
      · have h := h.1 c10
        refine EV.iconst 44 rfl dX3_visit_43 (v := 0) (by decide) ?_
        obtain ⟨n12, w11, h⟩ := h
        obtain ⟨j13, x14, h⟩ := h
        refine EV.iast 45 rfl dX3_visit_44 w11 x14 (EV.nm (fun σ15 e16 => ?_))
        have h := h σ15 e16
        have w17 := tr_hs (hs_setI_of e16) w11
        refine EV.iinc 48 rfl [some (.ref v0), some (.ref v1), some (.int v2), some (.int v3), some (.int (v4 + 1)), none, none, none, none] (v := 1) (by decide) (by decide) rfl rfl dX3_visit_45 ?_
        refine EV.goto 8 (by decide) dX3_visit_48 ?_
        exact h
      · have h := h.2 c10
        refine EV.iconst 40 rfl dX3_visit_39 (v := 1) (by decide) ?_
        refine EV.goto 44 (by decide) dX3_visit_40 ?_
        obtain ⟨n19, w18, h⟩ := h
        obtain ⟨j20, x21, h⟩ := h
        refine EV.iast 45 rfl dX3_visit_44 w18 x21 (EV.nm (fun σ22 e23 => ?_))
        have h := h σ22 e23
        have w24 := tr_hs (hs_setI_of e23) w18
        refine EV.iinc 48 rfl [some (.ref v0), some (.ref v1), some (.int v2), some (.int v3), some (.int (v4 + 1)), none, none, none, none] (v := 1) (by decide) (by decide) rfl rfl dX3_visit_45 ?_
        refine EV.goto 8 (by decide) dX3_visit_48 ?_
        exact h
theorem gX3_visit_51 {Γ : Gm} {d : Nat} {σ : AH} {Q : Oc → AH → Prop} {v0 : Nat} {v2 : Int32} {v3 : Int32} (h : hs σ v0 = some (3, 8) ∧ ∀ σ2 : AH, σ2 = setI σ v0 6 ((gi σ v0 6) + 1) → EV Γ MX3_visit d 68 [some (.ref v0), none, some (.int v2), some (.int v3), some (.int 0), some (.int 11), none, none, none] [] σ2 Q) : EV Γ MX3_visit d 51 [some (.ref v0), none, some (.int v2), some (.int v3), none, none, none, none, none] [] σ Q := by
  refine EV.aload_n 52 rfl 0 rfl rfl dX3_visit_51 ?_
  refine EV.dup 53 rfl dX3_visit_52 rfl ?_
  obtain ⟨w1, h⟩ := h
  refine EV.getI 56 rfl fl_X3_29 rfl dX3_visit_53 w1 ?_
  refine EV.iconst 57 rfl dX3_visit_56 (v := 1) (by decide) ?_
  refine EV.iadd 58 rfl dX3_visit_57 ?_
  refine EV.putI 61 rfl fw_X3_29 rfl (by decide) dX3_visit_58 w1 (EV.nm (fun σ2 e3 => ?_))
  have h := h σ2 e3
  have w4 := tr_hs (hs_setI_of e3) w1
  refine EV.iconst 62 rfl dX3_visit_61 (v := 0) (by decide) ?_
  refine EV.istore 64 rfl [some (.ref v0), none, some (.int v2), some (.int v3), some (.int 0), none, none, none, none] (by decide) rfl dX3_visit_62 ?_
  refine EV.bipush 66 rfl dX3_visit_64 (v := 11) (by decide) ?_
  refine EV.istore 68 rfl [some (.ref v0), none, some (.int v2), some (.int v3), some (.int 0), some (.int 11), none, none, none] (by decide) rfl dX3_visit_66 ?_
  exact h
theorem gX3_visit_68 {Γ : Gm} {d : Nat} {σ : AH} {Q : Oc → AH → Prop} {v0 : Nat} {v2 : Int32} {v3 : Int32} {v4 : Int32} {v5 : Int32} (h : ((v5 < 0 → Q (.inl (some (.int v4))) σ) ∧ (¬ v5 < 0 → EV Γ MX3_visit d 82 [some (.ref v0), none, some (.int v2), some (.int v3), some (.int v4), some (.int v5), some (.int ((1 : Int32) <<< (v5 &&& 31))), some (.int 0), none] [] σ Q))) : EV Γ MX3_visit d 68 [some (.ref v0), none, some (.int v2), some (.int v3), some (.int v4), some (.int v5), none, none, none] [] σ Q := by
  refine EV.iload 70 rfl rfl dX3_visit_68 ?_
  refine EV.if_lt 73 169 rfl (by decide) dX3_visit_70 (fun c1 => ?_) (fun c1 => ?_)
  · have h := h.1 c1
    refine EV.iload 171 rfl rfl dX3_visit_169 ?_
    exact EV.iret rfl dX3_visit_171 h
  · have h := h.2 c1
    refine EV.iconst 74 rfl dX3_visit_73 (v := 1) (by decide) ?_
    refine EV.iload 76 rfl rfl dX3_visit_74 ?_
    refine EV.ishl 77 rfl dX3_visit_76 ?_
    refine EV.istore 79 rfl [some (.ref v0), none, some (.int v2), some (.int v3), some (.int v4), some (.int v5), some (.int ((1 : Int32) <<< (v5 &&& 31))), none, none] (by decide) rfl dX3_visit_77 ?_
    refine EV.iconst 80 rfl dX3_visit_79 (v := 0) (by decide) ?_
    refine EV.istore 82 rfl [some (.ref v0), none, some (.int v2), some (.int v3), some (.int v4), some (.int v5), some (.int ((1 : Int32) <<< (v5 &&& 31))), some (.int 0), none] (by decide) rfl dX3_visit_80 ?_
    exact h
theorem gX3_visit_82 {Γ : Gm} {d : Nat} {σ : AH} {Q : Oc → AH → Prop} {v0 : Nat} {v2 : Int32} {v3 : Int32} {v4 : Int32} {v5 : Int32} {v6 : Int32} {v7 : Int32} (h : ((v3 ≤ (v7 + v6) → EV Γ MX3_visit d 68 [some (.ref v0), none, some (.int v2), some (.int v3), some (.int v4), some (.int (v5 + (-1))), none, none, none] [] σ Q) ∧ (¬ v3 ≤ (v7 + v6) → ((v6 ≤ v7 → EV Γ MX3_visit d 68 [some (.ref v0), none, some (.int v2), some (.int v3), some (.int v4), some (.int (v5 + (-1))), none, none, none] [] σ Q) ∧ (¬ v6 ≤ v7 → hs σ v0 = some (3, 8) ∧ ∃ t4 : Nat, gr σ v0 0 = some t4 ∧ ∃ n7 : Nat, hs σ t4 = some (22, n7) ∧ ∃ j8 : Nat, IX (v7 + v6) n7 j8 ∧ (((gi σ t4 j8) = 0 → EV Γ MX3_visit d 82 [some (.ref v0), none, some (.int v2), some (.int v3), some (.int v4), some (.int v5), some (.int v6), some (.int (v7 + 1)), none] [] σ Q) ∧ (¬ (gi σ t4 j8) = 0 → ∃ j11 : Nat, IX v7 n7 j11 ∧ CI Γ d MX3_numberOf [.ref v0, .int v5, .int (gi σ t4 j11), .int (gi σ t4 j8)] σ (fun r14 σ13 => hs σ13 v0 = some (3, 8) ∧ ∃ t16 : Nat, gr σ13 v0 0 = some t16 ∧ ∃ n19 : Nat, hs σ13 t16 = some (22, n19) ∧ ∃ j20 : Nat, IX v7 n19 j20 ∧ ∀ σ22 : AH, σ22 = setI σ13 t16 j20 r14 → CI Γ d MX3_mark [.ref v0, .int r14, .int v2] σ22 (fun r28 σ27 => EV Γ MX3_visit d 82 [some (.ref v0), none, some (.int v2), some (.int v3), some (.int (v4 + r28)), some (.int v5), some (.int v6), some (.int (v7 + 1)), none] [] σ27 Q) (fun E σ27 => Q (.inr E) σ27)) (fun E σ13 => Q (.inr E) σ13)))))))) : EV Γ MX3_visit d 82 [some (.ref v0), none, some (.int v2), some (.int v3), some (.int v4), some (.int v5), some (.int v6), some (.int v7), none] [] σ Q := by
  refine EV.iload 84 rfl rfl dX3_visit_82 ?_
  refine EV.iload 86 rfl rfl dX3_visit_84 ?_
  refine EV.iadd 87 rfl dX3_visit_86 ?_
  refine EV.iload_n 88 rfl 3 rfl rfl dX3_visit_87 ?_
  refine EV.icmp_ge 91 163 rfl (by decide) dX3_visit_88 (fun c1 => ?_) (fun c1 => ?_)
  · have h := h.1 c1
    refine EV.iinc 166 rfl [some (.ref v0), none, some (.int v2), some (.int v3), some (.int v4), some (.int (v5 + (-1))), some (.int v6), some (.int v7), none] (v := (-1)) (by decide) (by decide) rfl rfl dX3_visit_163 ?_
    refine EV.goto 68 (by decide) dX3_visit_166 ?_
    refine EV.mask [true, false, true, true, true, true, false, false, false] (L' := [some (.ref v0), none, some (.int v2), some (.int v3), some (.int v4), some (.int (v5 + (-1))), none, none, none]) rfl ?_
    exact h
  · have h := h.2 c1
    refine EV.iload 93 rfl rfl dX3_visit_91 ?_
    refine EV.iload 95 rfl rfl dX3_visit_93 ?_
    refine EV.icmp_ge 98 163 rfl (by decide) dX3_visit_95 (fun c2 => ?_) (fun c2 => ?_)
    · have h := h.1 c2
      refine EV.iinc 166 rfl [some (.ref v0), none, some (.int v2), some (.int v3), some (.int v4), some (.int (v5 + (-1))), some (.int v6), some (.int v7), none] (v := (-1)) (by decide) (by decide) rfl rfl dX3_visit_163 ?_
      refine EV.goto 68 (by decide) dX3_visit_166 ?_
      refine EV.mask [true, false, true, true, true, true, false, false, false] (L' := [some (.ref v0), none, some (.int v2), some (.int v3), some (.int v4), some (.int (v5 + (-1))), none, none, none]) rfl ?_
      exact h
    · have h := h.2 c2
      refine EV.aload_n 99 rfl 0 rfl rfl dX3_visit_98 ?_
      obtain ⟨w3, h⟩ := h
      obtain ⟨t4, g5, h⟩ := h
      refine EV.getR 102 rfl fl_X3_35 rfl dX3_visit_99 w3 g5 ?_
      refine EV.iload 104 rfl rfl dX3_visit_102 ?_
      refine EV.iload 106 rfl rfl dX3_visit_104 ?_
      refine EV.iadd 107 rfl dX3_visit_106 ?_
      obtain ⟨n7, w6, h⟩ := h
      obtain ⟨j8, x9, h⟩ := h
      refine EV.iald 108 rfl dX3_visit_107 w6 x9 ?_
      refine EV.if_eq 111 157 rfl (by decide) dX3_visit_108 (fun c10 => ?_) (fun c10 => ?_)
      · have h := h.1 c10
        refine EV.iinc 160 rfl [some (.ref v0), none, some (.int v2), some (.int v3), some (.int v4), some (.int v5), some (.int v6), some (.int (v7 + 1)), none] (v := 1) (by decide) (by decide) rfl rfl dX3_visit_157 ?_
        refine EV.goto 82 (by decide) dX3_visit_160 ?_
        exact h
      · have h := h.2 c10
        refine EV.aload_n 112 rfl 0 rfl rfl dX3_visit_111 ?_
        refine EV.iload 114 rfl rfl dX3_visit_112 ?_
        refine EV.aload_n 115 rfl 0 rfl rfl dX3_visit_114 ?_
        refine EV.getR 118 rfl fl_X3_35 rfl dX3_visit_115 w3 g5 ?_
        refine EV.iload 120 rfl rfl dX3_visit_118 ?_
        obtain ⟨j11, x12, h⟩ := h
        refine EV.iald 121 rfl dX3_visit_120 w6 x12 ?_
        refine EV.aload_n 122 rfl 0 rfl rfl dX3_visit_121 ?_
        refine EV.getR 125 rfl fl_X3_35 rfl dX3_visit_122 w3 g5 ?_
        refine EV.iload 127 rfl rfl dX3_visit_125 ?_
        refine EV.iload 129 rfl rfl dX3_visit_127 ?_
        refine EV.iadd 130 rfl dX3_visit_129 ?_
        refine EV.iald 131 rfl dX3_visit_130 w6 x9 ?_
        refine EV.cV rfl rfl lk_X3_48 rfl (vs := [.int v5, .int (gi σ t4 j11), .int (gi σ t4 j8)]) (st := []) rfl rfl (Nat.le_of_ble_eq_true rfl) dX3_visit_131 w3 h (fun v σ13 h => ?_)
        obtain ⟨r14, rfl, h⟩ := h
        show EV Γ MX3_visit d 134 [some (.ref v0), none, some (.int v2), some (.int v3), some (.int v4), some (.int v5), some (.int v6), some (.int v7), none] [.int r14] σ13 Q
        refine EV.istore 136 rfl [some (.ref v0), none, some (.int v2), some (.int v3), some (.int v4), some (.int v5), some (.int v6), some (.int v7), some (.int r14)] (by decide) rfl dX3_visit_134 ?_
        refine EV.aload_n 137 rfl 0 rfl rfl dX3_visit_136 ?_
        obtain ⟨w15, h⟩ := h
        obtain ⟨t16, g17, h⟩ := h
        refine EV.getR 140 rfl fl_X3_35 rfl dX3_visit_137 w15 g17 ?_
        refine EV.iload 142 rfl rfl dX3_visit_140 ?_
        refine EV.iload 144 rfl rfl dX3_visit_142 ?_
        obtain ⟨n19, w18, h⟩ := h
        obtain ⟨j20, x21, h⟩ := h
        refine EV.iast 145 rfl dX3_visit_144 w18 x21 (EV.nm (fun σ22 e23 => ?_))
        have h := h σ22 e23
        have w24 := tr_hs (hs_setI_of e23) w15
        have w25 := tr_hs (hs_setI_of e23) w18
        have g26 := tr_gr (gr_setI_of e23) g17
        refine EV.iload 147 rfl rfl dX3_visit_145 ?_
        refine EV.aload_n 148 rfl 0 rfl rfl dX3_visit_147 ?_
        refine EV.iload 150 rfl rfl dX3_visit_148 ?_
        refine EV.iload_n 151 rfl 2 rfl rfl dX3_visit_150 ?_
        refine EV.cV rfl rfl lk_X3_52 rfl (vs := [.int r14, .int v2]) (st := [.int v4]) rfl rfl (Nat.le_of_ble_eq_true rfl) dX3_visit_151 w24 h (fun v σ27 h => ?_)
        obtain ⟨r28, rfl, h⟩ := h
        show EV Γ MX3_visit d 154 [some (.ref v0), none, some (.int v2), some (.int v3), some (.int v4), some (.int v5), some (.int v6), some (.int v7), some (.int r14)] [.int r28, .int v4] σ27 Q
        refine EV.iadd 155 rfl dX3_visit_154 ?_
        refine EV.istore 157 rfl [some (.ref v0), none, some (.int v2), some (.int v3), some (.int (v4 + r28)), some (.int v5), some (.int v6), some (.int v7), some (.int r14)] (by decide) rfl dX3_visit_155 ?_
        refine EV.iinc 160 rfl [some (.ref v0), none, some (.int v2), some (.int v3), some (.int (v4 + r28)), some (.int v5), some (.int v6), some (.int (v7 + 1)), some (.int r14)] (v := 1) (by decide) (by decide) rfl rfl dX3_visit_157 ?_
        refine EV.goto 82 (by decide) dX3_visit_160 ?_
        refine EV.mask [true, false, true, true, true, true, true, true, false] (L' := [some (.ref v0), none, some (.int v2), some (.int v3), some (.int (v4 + r28)), some (.int v5), some (.int v6), some (.int (v7 + 1)), none]) rfl ?_
        exact h
theorem gX3_mark_0 {Γ : Gm} {d : Nat} {σ : AH} {Q : Oc → AH → Prop} {v0 : Nat} {v1 : Int32} {v2 : Int32} (h : ((v1 < 0 → Q (.inl (some (.int 0))) σ) ∧ (¬ v1 < 0 → hs σ v0 = some (3, 8) ∧ ∃ t3 : Nat, gr σ v0 3 = some t3 ∧ ∃ n6 : Nat, hs σ t3 = some (22, n6) ∧ (((nI n6) ≤ v1 → Q (.inl (some (.int 0))) σ) ∧ (¬ (nI n6) ≤ v1 → ∃ t8 : Nat, gr σ v0 2 = some t8 ∧ ∃ n11 : Nat, hs σ t8 = some (22, n11) ∧ (((nI n11) ≤ v1 → Q (.inl (some (.int 0))) σ) ∧ (¬ (nI n11) ≤ v1 → ∃ j13 : Nat, IX v1 n6 j13 ∧ (((gi σ t3 j13) ≠ (gi σ v0 6) → ∀ σ16 : AH, σ16 = setI σ t3 j13 (gi σ v0 6) → ∃ j23 : Nat, IX v1 n11 j23 ∧ (((gi σ16 t8 j23) ≤ 0 → EV Γ MX3_mark d 61 [some (.ref v0), some (.int v1), some (.int v2), none, none] [.int 0] σ16 Q) ∧ (¬ (gi σ16 t8 j23) ≤ 0 → EV Γ MX3_mark d 61 [some (.ref v0), some (.int v1), some (.int v2), none, none] [.int 1] σ16 Q))) ∧ ((gi σ t3 j13) = (gi σ v0 6) → Q (.inl (some (.int 0))) σ))))))))) : EV Γ MX3_mark d 0 [some (.ref v0), some (.int v1), some (.int v2), none, none] [] σ Q := by
  refine EV.iload_n 1 rfl 1 rfl rfl dX3_mark_0 ?_
  refine EV.if_lt 4 35 rfl (by decide) dX3_mark_1 (fun c1 => ?_) (fun c1 => ?_)
  · have h := h.1 c1
    refine EV.iconst 36 rfl dX3_mark_35 (v := 0) (by decide) ?_
    exact EV.iret rfl dX3_mark_36 h
  · have h := h.2 c1
    refine EV.iload_n 5 rfl 1 rfl rfl dX3_mark_4 ?_
    refine EV.aload_n 6 rfl 0 rfl rfl dX3_mark_5 ?_
    obtain ⟨w2, h⟩ := h
    obtain ⟨t3, g4, h⟩ := h
    refine EV.getR 9 rfl fl_X3_19 rfl dX3_mark_6 w2 g4 ?_
    obtain ⟨n6, w5, h⟩ := h
    refine EV.alenI 10 rfl dX3_mark_9 w5 ?_
    refine EV.icmp_ge 13 35 rfl (by decide) dX3_mark_10 (fun c7 => ?_) (fun c7 => ?_)
    · have h := h.1 c7
      refine EV.iconst 36 rfl dX3_mark_35 (v := 0) (by decide) ?_
      exact EV.iret rfl dX3_mark_36 h
    · have h := h.2 c7
      refine EV.iload_n 14 rfl 1 rfl rfl dX3_mark_13 ?_
      refine EV.aload_n 15 rfl 0 rfl rfl dX3_mark_14 ?_
      obtain ⟨t8, g9, h⟩ := h
      refine EV.getR 18 rfl fl_X3_15 rfl dX3_mark_15 w2 g9 ?_
      obtain ⟨n11, w10, h⟩ := h
      refine EV.alenI 19 rfl dX3_mark_18 w10 ?_
      refine EV.icmp_ge 22 35 rfl (by decide) dX3_mark_19 (fun c12 => ?_) (fun c12 => ?_)
      · have h := h.1 c12
        refine EV.iconst 36 rfl dX3_mark_35 (v := 0) (by decide) ?_
        exact EV.iret rfl dX3_mark_36 h
      · have h := h.2 c12
        refine EV.aload_n 23 rfl 0 rfl rfl dX3_mark_22 ?_
        refine EV.getR 26 rfl fl_X3_19 rfl dX3_mark_23 w2 g4 ?_
        refine EV.iload_n 27 rfl 1 rfl rfl dX3_mark_26 ?_
        obtain ⟨j13, x14, h⟩ := h
        refine EV.iald 28 rfl dX3_mark_27 w5 x14 ?_
        refine EV.aload_n 29 rfl 0 rfl rfl dX3_mark_28 ?_
        refine EV.getI 32 rfl fl_X3_29 rfl dX3_mark_29 w2 ?_
        refine EV.icmp_ne 35 37 rfl (by decide) dX3_mark_32 (fun c15 => ?_) (fun c15 => ?_)
        · have h := h.1 c15
          refine EV.aload_n 38 rfl 0 rfl rfl dX3_mark_37 ?_
          refine EV.getR 41 rfl fl_X3_19 rfl dX3_mark_38 w2 g4 ?_
          refine EV.iload_n 42 rfl 1 rfl rfl dX3_mark_41 ?_
          refine EV.aload_n 43 rfl 0 rfl rfl dX3_mark_42 ?_
          refine EV.getI 46 rfl fl_X3_29 rfl dX3_mark_43 w2 ?_
          refine EV.iast 47 rfl dX3_mark_46 w5 x14 (EV.nm (fun σ16 e17 => ?_))
          have h := h σ16 e17
          have w18 := tr_hs (hs_setI_of e17) w2
          have w19 := tr_hs (hs_setI_of e17) w5
          have w20 := tr_hs (hs_setI_of e17) w10
          have g21 := tr_gr (gr_setI_of e17) g4
          have g22 := tr_gr (gr_setI_of e17) g9
          refine EV.aload_n 48 rfl 0 rfl rfl dX3_mark_47 ?_
          refine EV.getR 51 rfl fl_X3_15 rfl dX3_mark_48 w18 g22 ?_
          refine EV.iload_n 52 rfl 1 rfl rfl dX3_mark_51 ?_
          obtain ⟨j23, x24, h⟩ := h
          refine EV.iald 53 rfl dX3_mark_52 w20 x24 ?_
          refine EV.if_le 56 60 rfl (by decide) dX3_mark_53 (fun c25 => ?_) (fun c25 => ?_)
          · have h := h.1 c25
            refine EV.iconst 61 rfl dX3_mark_60 (v := 0) (by decide) ?_
            exact h
          · have h := h.2 c25
            refine EV.iconst 57 rfl dX3_mark_56 (v := 1) (by decide) ?_
            refine EV.goto 61 (by decide) dX3_mark_57 ?_
            exact h
        · have h := h.2 c15
          refine EV.iconst 36 rfl dX3_mark_35 (v := 0) (by decide) ?_
          exact EV.iret rfl dX3_mark_36 h
theorem eX3_mark {Γ : Gm} {d : Nat} {σ : AH} {Q : Oc → AH → Prop} {v0 : Nat} {v1 : Int32} {v2 : Int32} (h : ((v1 < 0 → Q (.inl (some (.int 0))) σ) ∧ (¬ v1 < 0 → hs σ v0 = some (3, 8) ∧ ∃ t3 : Nat, gr σ v0 3 = some t3 ∧ ∃ n6 : Nat, hs σ t3 = some (22, n6) ∧ (((nI n6) ≤ v1 → Q (.inl (some (.int 0))) σ) ∧ (¬ (nI n6) ≤ v1 → ∃ t8 : Nat, gr σ v0 2 = some t8 ∧ ∃ n11 : Nat, hs σ t8 = some (22, n11) ∧ (((nI n11) ≤ v1 → Q (.inl (some (.int 0))) σ) ∧ (¬ (nI n11) ≤ v1 → ∃ j13 : Nat, IX v1 n6 j13 ∧ (((gi σ t3 j13) ≠ (gi σ v0 6) → ∀ σ16 : AH, σ16 = setI σ t3 j13 (gi σ v0 6) → ∃ j23 : Nat, IX v1 n11 j23 ∧ (((gi σ16 t8 j23) ≤ 0 → EV Γ MX3_mark d 61 [some (.ref v0), some (.int v1), some (.int v2), none, none] [.int 0] σ16 Q) ∧ (¬ (gi σ16 t8 j23) ≤ 0 → EV Γ MX3_mark d 61 [some (.ref v0), some (.int v1), some (.int v2), none, none] [.int 1] σ16 Q))) ∧ ((gi σ t3 j13) = (gi σ v0 6) → Q (.inl (some (.int 0))) σ))))))))) : RUN Γ d MX3_mark [.ref v0, .int v1, .int v2] σ Q :=
  EV.enter [some (.ref v0), some (.int v1), some (.int v2), none, none] rfl (by decide +kernel) (Nat.le_of_ble_eq_true rfl) rfl (gX3_mark_0 h)
theorem gX3_mark_61 {Γ : Gm} {d : Nat} {σ : AH} {Q : Oc → AH → Prop} {v0 : Nat} {v1 : Int32} {v2 : Int32} {s0 : Int32} (h : hs σ v0 = some (3, 8) ∧ ∃ t2 : Nat, gr σ v0 2 = some t2 ∧ ∃ n5 : Nat, hs σ t2 = some (22, n5) ∧ ∃ j6 : Nat, IX v1 n5 j6 ∧ ∀ σ8 : AH, σ8 = setI σ t2 j6 ((gi σ t2 j6) + v2) → (((gi σ8 t2 j6) ≤ 0 → EV Γ MX3_mark d 86 [some (.ref v0), none, some (.int v2), some (.int s0), none] [.int 0] σ8 Q) ∧ (¬ (gi σ8 t2 j6) ≤ 0 → EV Γ MX3_mark d 86 [some (.ref v0), none, some (.int v2), some (.int s0), none] [.int 1] σ8 Q))) : EV Γ MX3_mark d 61 [some (.ref v0), some (.int v1), some (.int v2), none, none] [.int s0] σ Q := by
  refine EV.istore_n 62 rfl 3 [some (.ref v0), some (.int v1), some (.int v2), some (.int s0), none] rfl (by decide) rfl dX3_mark_61 ?_
  refine EV.aload_n 63 rfl 0 rfl rfl dX3_mark_62 ?_
  obtain ⟨w1, h⟩ := h
  obtain ⟨t2, g3, h⟩ := h
  refine EV.getR 66 rfl fl_X3_15 rfl dX3_mark_63 w1 g3 ?_
  refine EV.iload_n 67 rfl 1 rfl rfl dX3_mark_66 ?_
  refine EV.dup2 68 rfl dX3_mark_67 rfl rfl ?_
  obtain ⟨n5, w4, h⟩ := h
  obtain ⟨j6, x7, h⟩ := h
  refine EV.iald 69 rfl dX3_mark_68 w4 x7 ?_
  refine EV.iload_n 70 rfl 2 rfl rfl dX3_mark_69 ?_
  refine EV.iadd 71 rfl dX3_mark_70 ?_
  refine EV.iast 72 rfl dX3_mark_71 w4 x7 (EV.nm (fun σ8 e9 => ?_))
  have h := h σ8 e9
  have w10 := tr_hs (hs_setI_of e9) w1
  have w11 := tr_hs (hs_setI_of e9) w4
  have g12 := tr_gr (gr_setI_of e9) g3
  refine EV.aload_n 73 rfl 0 rfl rfl dX3_mark_72 ?_
  refine EV.getR 76 rfl fl_X3_15 rfl dX3_mark_73 w10 g12 ?_
  refine EV.iload_n 77 rfl 1 rfl rfl dX3_mark_76 ?_
  refine EV.iald 78 rfl dX3_mark_77 w11 x7 ?_
  refine EV.if_le 81 85 rfl (by decide) dX3_mark_78 (fun c13 => ?_) (fun c13 => ?_)
  · have h := h.1 c13
    refine EV.iconst 86 rfl dX3_mark_85 (v := 0) (by decide) ?_
    refine EV.mask [true, false, true, true, false] (L' := [some (.ref v0), none, some (.int v2), some (.int s0), none]) rfl ?_
    exact h
  · have h := h.2 c13
    refine EV.iconst 82 rfl dX3_mark_81 (v := 1) (by decide) ?_
    refine EV.goto 86 (by decide) dX3_mark_82 ?_
    refine EV.mask [true, false, true, true, false] (L' := [some (.ref v0), none, some (.int v2), some (.int s0), none]) rfl ?_
    exact h
theorem gX3_mark_86 {Γ : Gm} {d : Nat} {σ : AH} {Q : Oc → AH → Prop} {v0 : Nat} {v2 : Int32} {v3 : Int32} {s0 : Int32} (h : ((s0 = v3 → Q (.inl (some (.int 1))) σ) ∧ (¬ s0 = v3 → hs σ v0 = some (3, 8) ∧ ∀ σ3 : AH, σ3 = setI σ v0 7 ((gi σ v0 7) + v2) → Q (.inl (some (.int 1))) σ3))) : EV Γ MX3_mark d 86 [some (.ref v0), none, some (.int v2), some (.int v3), none] [.int s0] σ Q := by
  refine EV.istore 88 rfl [some (.ref v0), none, some (.int v2), some (.int v3), some (.int s0)] (by decide) rfl dX3_mark_86 ?_
  refine EV.iload 90 rfl rfl dX3_mark_88 ?_
  refine EV.iload_n 91 rfl 3 rfl rfl dX3_mark_90 ?_
  refine EV.icmp_eq 94 104 rfl (by decide) dX3_mark_91 (fun c1 => ?_) (fun c1 => ?_)
  · have h := h.1 c1
    refine EV.iconst 105 rfl dX3_mark_104 (v := 1) (by decide) ?_
    exact EV.iret rfl dX3_mark_105 h
  · have h := h.2 c1
    refine EV.aload_n 95 rfl 0 rfl rfl dX3_mark_94 ?_
    refine EV.dup 96 rfl dX3_mark_95 rfl ?_
    obtain ⟨w2, h⟩ := h
    refine EV.getI 99 rfl fl_X3_32 rfl dX3_mark_96 w2 ?_
    refine EV.iload_n 100 rfl 2 rfl rfl dX3_mark_99 ?_
    refine EV.iadd 101 rfl dX3_mark_100 ?_
    refine EV.putI 104 rfl fw_X3_32 rfl (by decide) dX3_mark_101 w2 (EV.nm (fun σ3 e4 => ?_))
    have h := h σ3 e4
    have w5 := tr_hs (hs_setI_of e4) w2
    refine EV.iconst 105 rfl dX3_mark_104 (v := 1) (by decide) ?_
    exact EV.iret rfl dX3_mark_105 h
theorem gX3_numberOf_0 {Γ : Gm} {d : Nat} {σ : AH} {Q : Oc → AH → Prop} {v0 : Nat} {v1 : Int32} {v2 : Int32} {v3 : Int32} (h : hs σ v0 = some (3, 8) ∧ ∃ t2 : Nat, gr σ v0 1 = some t2 ∧ ∃ n5 : Nat, hs σ t2 = some (23, n5) ∧ (((gi σ v0 5) < (nI n5) → EV Γ MX3_numberOf d 16 [some (.ref v0), some (.int v1), some (.int v2), some (.int v3), none, none, none] [] σ Q) ∧ (¬ (gi σ v0 5) < (nI n5) → CV Γ d MX3_enlarge [.ref v0] σ (fun σ7 => EV Γ MX3_numberOf d 16 [some (.ref v0), some (.int v1), some (.int v2), some (.int v3), none, none, none] [] σ7 Q) (fun E σ7 => Q (.inr E) σ7)))) : EV Γ MX3_numberOf d 0 [some (.ref v0), some (.int v1), some (.int v2), some (.int v3), none, none, none] [] σ Q := by
  refine EV.aload_n 1 rfl 0 rfl rfl dX3_numberOf_0 ?_
  obtain ⟨w1, h⟩ := h
  refine EV.getI 4 rfl fl_X3_25 rfl dX3_numberOf_1 w1 ?_
  refine EV.aload_n 5 rfl 0 rfl rfl dX3_numberOf_4 ?_
  obtain ⟨t2, g3, h⟩ := h
  refine EV.getR 8 rfl fl_X3_11 rfl dX3_numberOf_5 w1 g3 ?_
  obtain ⟨n5, w4, h⟩ := h
  refine EV.alenJ 9 rfl dX3_numberOf_8 w4 ?_
  refine EV.icmp_lt 12 16 rfl (by decide) dX3_numberOf_9 (fun c6 => ?_) (fun c6 => ?_)
  · have h := h.1 c6
    exact h
  · have h := h.2 c6
    refine EV.aload_n 13 rfl 0 rfl rfl dX3_numberOf_12 ?_
    refine EV.cV rfl rfl lk_X3_56 rfl (vs := []) (st := []) rfl rfl (Nat.le_of_ble_eq_true rfl) dX3_numberOf_13 w1 h (fun v σ7 h => ?_)
    obtain ⟨rfl, h⟩ := h
    show EV Γ MX3_numberOf d 16 [some (.ref v0), some (.int v1), some (.int v2), some (.int v3), none, none, none] [] σ7 Q
    exact h
theorem eX3_numberOf {Γ : Gm} {d : Nat} {σ : AH} {Q : Oc → AH → Prop} {v0 : Nat} {v1 : Int32} {v2 : Int32} {v3 : Int32} (h : hs σ v0 = some (3, 8) ∧ ∃ t2 : Nat, gr σ v0 1 = some t2 ∧ ∃ n5 : Nat, hs σ t2 = some (23, n5) ∧ (((gi σ v0 5) < (nI n5) → EV Γ MX3_numberOf d 16 [some (.ref v0), some (.int v1), some (.int v2), some (.int v3), none, none, none] [] σ Q) ∧ (¬ (gi σ v0 5) < (nI n5) → CV Γ d MX3_enlarge [.ref v0] σ (fun σ7 => EV Γ MX3_numberOf d 16 [some (.ref v0), some (.int v1), some (.int v2), some (.int v3), none, none, none] [] σ7 Q) (fun E σ7 => Q (.inr E) σ7)))) : RUN Γ d MX3_numberOf [.ref v0, .int v1, .int v2, .int v3] σ Q :=
  EV.enter [some (.ref v0), some (.int v1), some (.int v2), some (.int v3), none, none, none] rfl (by decide +kernel) (Nat.le_of_ble_eq_true rfl) rfl (gX3_numberOf_0 h)
theorem gX3_numberOf_16 {Γ : Gm} {d : Nat} {σ : AH} {Q : Oc → AH → Prop} {v0 : Nat} {v1 : Int32} {v2 : Int32} {v3 : Int32} (h : hs σ v0 = some (3, 8) ∧ CI Γ d MX3_placeOf [.ref v0, .long (((((Int32.toInt64 v1) <<< 20) ||| (Int32.toInt64 v2)) <<< 20) ||| (Int32.toInt64 v3))] σ (fun r2 σ1 => hs σ1 v0 = some (3, 8) ∧ ∃ t5 : Nat, gr σ1 v0 4 = some t5 ∧ ∃ n8 : Nat, hs σ1 t5 = some (22, n8) ∧ ∃ j9 : Nat, IX r2 n8 j9 ∧ (((gi σ1 t5 j9) ≠ 0 → Q (.inl (some (.int (gi σ1 t5 j9)))) σ1) ∧ ((gi σ1 t5 j9) = 0 → ∃ t12 : Nat, gr σ1 v0 1 = some t12 ∧ ∃ n15 : Nat, hs σ1 t12 = some (23, n15) ∧ ∃ j16 : Nat, IX (gi σ1 v0 5) n15 j16 ∧ ∀ σ18 : AH, σ18 = setJ σ1 t12 j16 (((((Int32.toInt64 v1) <<< 20) ||| (Int32.toInt64 v2)) <<< 20) ||| (Int32.toInt64 v3)) → ∀ σ25 : AH, σ25 = setI σ18 t5 j9 (gi σ18 v0 5) → ∀ σ32 : AH, σ32 = setI σ25 v0 5 ((gi σ25 v0 5) + 1) → Q (.inl (some (.int (gi σ32 t5 j9)))) σ32))) (fun E σ1 => Q (.inr E) σ1)) : EV Γ MX3_numberOf d 16 [some (.ref v0), some (.int v1), some (.int v2), some (.int v3), none, none, none] [] σ Q := by
  refine EV.iload_n 17 rfl 1 rfl rfl dX3_numberOf_16 ?_
  refine EV.i2l 18 rfl dX3_numberOf_17 ?_
  refine EV.bipush 20 rfl dX3_numberOf_18 (v := 20) (by decide) ?_
  refine EV.lshlC 21 rfl (z := 20) (by decide) dX3_numberOf_20 ?_
  refine EV.iload_n 22 rfl 2 rfl rfl dX3_numberOf_21 ?_
  refine EV.i2l 23 rfl dX3_numberOf_22 ?_
  refine EV.lor 24 rfl dX3_numberOf_23 ?_
  refine EV.bipush 26 rfl dX3_numberOf_24 (v := 20) (by decide) ?_
  refine EV.lshlC 27 rfl (z := 20) (by decide) dX3_numberOf_26 ?_
  refine EV.iload_n 28 rfl 3 rfl rfl dX3_numberOf_27 ?_
  refine EV.i2l 29 rfl dX3_numberOf_28 ?_
  refine EV.lor 30 rfl dX3_numberOf_29 ?_
  refine EV.lstore 32 rfl [some (.ref v0), some (.int v1), some (.int v2), some (.int v3), some (.long (((((Int32.toInt64 v1) <<< 20) ||| (Int32.toInt64 v2)) <<< 20) ||| (Int32.toInt64 v3))), none, none] (by decide) rfl dX3_numberOf_30 ?_
  refine EV.aload_n 33 rfl 0 rfl rfl dX3_numberOf_32 ?_
  refine EV.lload 35 rfl rfl dX3_numberOf_33 ?_
  obtain ⟨w3, h⟩ := h
  refine EV.cV rfl rfl lk_X3_59 rfl (vs := [.long (((((Int32.toInt64 v1) <<< 20) ||| (Int32.toInt64 v2)) <<< 20) ||| (Int32.toInt64 v3))]) (st := []) rfl rfl (Nat.le_of_ble_eq_true rfl) dX3_numberOf_35 w3 h (fun v σ1 h => ?_)
  obtain ⟨r2, rfl, h⟩ := h
  show EV Γ MX3_numberOf d 38 [some (.ref v0), some (.int v1), some (.int v2), some (.int v3), some (.long (((((Int32.toInt64 v1) <<< 20) ||| (Int32.toInt64 v2)) <<< 20) ||| (Int32.toInt64 v3))), none, none] [.int r2] σ1 Q
  refine EV.istore 40 rfl [some (.ref v0), some (.int v1), some (.int v2), some (.int v3), some (.long (((((Int32.toInt64 v1) <<< 20) ||| (Int32.toInt64 v2)) <<< 20) ||| (Int32.toInt64 v3))), none, some (.int r2)] (by decide) rfl dX3_numberOf_38 ?_
  refine EV.aload_n 41 rfl 0 rfl rfl dX3_numberOf_40 ?_
  obtain ⟨w4, h⟩ := h
  obtain ⟨t5, g6, h⟩ := h
  refine EV.getR 44 rfl fl_X3_22 rfl dX3_numberOf_41 w4 g6 ?_
  refine EV.iload 46 rfl rfl dX3_numberOf_44 ?_
  obtain ⟨n8, w7, h⟩ := h
  obtain ⟨j9, x10, h⟩ := h
  refine EV.iald 47 rfl dX3_numberOf_46 w7 x10 ?_
  refine EV.if_ne 50 82 rfl (by decide) dX3_numberOf_47 (fun c11 => ?_) (fun c11 => ?_)
  · have h := h.1 c11
    refine EV.aload_n 83 rfl 0 rfl rfl dX3_numberOf_82 ?_
    refine EV.getR 86 rfl fl_X3_22 rfl dX3_numberOf_83 w4 g6 ?_
    refine EV.iload 88 rfl rfl dX3_numberOf_86 ?_
    refine EV.iald 89 rfl dX3_numberOf_88 w7 x10 ?_
    exact EV.iret rfl dX3_numberOf_89 h
  · have h := h.2 c11
    refine EV.aload_n 51 rfl 0 rfl rfl dX3_numberOf_50 ?_
    obtain ⟨t12, g13, h⟩ := h
    refine EV.getR 54 rfl fl_X3_11 rfl dX3_numberOf_51 w4 g13 ?_
    refine EV.aload_n 55 rfl 0 rfl rfl dX3_numberOf_54 ?_
    refine EV.getI 58 rfl fl_X3_25 rfl dX3_numberOf_55 w4 ?_
    refine EV.lload 60 rfl rfl dX3_numberOf_58 ?_
    obtain ⟨n15, w14, h⟩ := h
    obtain ⟨j16, x17, h⟩ := h
    refine EV.last 61 rfl dX3_numberOf_60 w14 x17 (EV.nm (fun σ18 e19 => ?_))
    have h := h σ18 e19
    have w20 := tr_hs (hs_setJ_of e19) w4
    have w21 := tr_hs (hs_setJ_of e19) w7
    have w22 := tr_hs (hs_setJ_of e19) w14
    have g23 := tr_gr (gr_setJ_of e19) g6
    have g24 := tr_gr (gr_setJ_of e19) g13
    refine EV.aload_n 62 rfl 0 rfl rfl dX3_numberOf_61 ?_
    refine EV.getR 65 rfl fl_X3_22 rfl dX3_numberOf_62 w20 g23 ?_
    refine EV.iload 67 rfl rfl dX3_numberOf_65 ?_
    refine EV.aload_n 68 rfl 0 rfl rfl dX3_numberOf_67 ?_
    refine EV.getI 71 rfl fl_X3_25 rfl dX3_numberOf_68 w20 ?_
    refine EV.iast 72 rfl dX3_numberOf_71 w21 x10 (EV.nm (fun σ25 e26 => ?_))
    have h := h σ25 e26
    have w27 := tr_hs (hs_setI_of e26) w20
    have w28 := tr_hs (hs_setI_of e26) w21
    have w29 := tr_hs (hs_setI_of e26) w22
    have g30 := tr_gr (gr_setI_of e26) g23
    have g31 := tr_gr (gr_setI_of e26) g24
    refine EV.aload_n 73 rfl 0 rfl rfl dX3_numberOf_72 ?_
    refine EV.dup 74 rfl dX3_numberOf_73 rfl ?_
    refine EV.getI 77 rfl fl_X3_25 rfl dX3_numberOf_74 w27 ?_
    refine EV.iconst 78 rfl dX3_numberOf_77 (v := 1) (by decide) ?_
    refine EV.iadd 79 rfl dX3_numberOf_78 ?_
    refine EV.putI 82 rfl fw_X3_25 rfl (by decide) dX3_numberOf_79 w27 (EV.nm (fun σ32 e33 => ?_))
    have h := h σ32 e33
    have w34 := tr_hs (hs_setI_of e33) w27
    have w35 := tr_hs (hs_setI_of e33) w28
    have w36 := tr_hs (hs_setI_of e33) w29
    have g37 := tr_gr (gr_setI_of e33) g30
    have g38 := tr_gr (gr_setI_of e33) g31
    refine EV.aload_n 83 rfl 0 rfl rfl dX3_numberOf_82 ?_
    refine EV.getR 86 rfl fl_X3_22 rfl dX3_numberOf_83 w34 g37 ?_
    refine EV.iload 88 rfl rfl dX3_numberOf_86 ?_
    refine EV.iald 89 rfl dX3_numberOf_88 w35 x10 ?_
    exact EV.iret rfl dX3_numberOf_89 h
theorem gX3_placeOf_0 {Γ : Gm} {d : Nat} {σ : AH} {Q : Oc → AH → Prop} {v0 : Nat} {v1 : Int64} (h : hs σ v0 = some (3, 8) ∧ ∃ t2 : Nat, gr σ v0 4 = some t2 ∧ ∃ n5 : Nat, hs σ t2 = some (22, n5) ∧ EV Γ MX3_placeOf d 24 [some (.ref v0), some (.long v1), none, some (.int ((nI n5) - 1)), some (.int ((Int64.toInt32 ((Int64.toUInt64 (v1 * (-7046029254386353131)) >>> ((Int32.toInt64 40).toUInt64 &&& Int64.toUInt64 63)).toInt64)) &&& ((nI n5) - 1))), some (.int 0), none] [] σ Q) : EV Γ MX3_placeOf d 0 [some (.ref v0), some (.long v1), none, none, none, none, none] [] σ Q := by
  refine EV.aload_n 1 rfl 0 rfl rfl dX3_placeOf_0 ?_
  obtain ⟨w1, h⟩ := h
  obtain ⟨t2, g3, h⟩ := h
  refine EV.getR 4 rfl fl_X3_22 rfl dX3_placeOf_1 w1 g3 ?_
  obtain ⟨n5, w4, h⟩ := h
  refine EV.alenI 5 rfl dX3_placeOf_4 w4 ?_
  refine EV.iconst 6 rfl dX3_placeOf_5 (v := 1) (by decide) ?_
  refine EV.isub 7 rfl dX3_placeOf_6 ?_
  refine EV.istore_n 8 rfl 3 [some (.ref v0), some (.long v1), none, some (.int ((nI n5) - 1)), none, none, none] rfl (by decide) rfl dX3_placeOf_7 ?_
  refine EV.lload_n 9 rfl 1 rfl rfl dX3_placeOf_8 ?_
  refine EV.ldc2 12 rfl k_X3_63 dX3_placeOf_9 ?_
  refine EV.lmul 13 rfl dX3_placeOf_12 ?_
  refine EV.bipush 15 rfl dX3_placeOf_13 (v := 40) (by decide) ?_
  refine EV.lushr 16 rfl dX3_placeOf_15 ?_
  refine EV.l2i 17 rfl dX3_placeOf_16 ?_
  refine EV.iload_n 18 rfl 3 rfl rfl dX3_placeOf_17 ?_
  refine EV.iand 19 rfl dX3_placeOf_18 ?_
  refine EV.istore 21 rfl [some (.ref v0), some (.long v1), none, some (.int ((nI n5) - 1)), some (.int ((Int64.toInt32 ((Int64.toUInt64 (v1 * (-7046029254386353131)) >>> ((Int32.toInt64 40).toUInt64 &&& Int64.toUInt64 63)).toInt64)) &&& ((nI n5) - 1))), none, none] (by decide) rfl dX3_placeOf_19 ?_
  refine EV.iconst 22 rfl dX3_placeOf_21 (v := 0) (by decide) ?_
  refine EV.istore 24 rfl [some (.ref v0), some (.long v1), none, some (.int ((nI n5) - 1)), some (.int ((Int64.toInt32 ((Int64.toUInt64 (v1 * (-7046029254386353131)) >>> ((Int32.toInt64 40).toUInt64 &&& Int64.toUInt64 63)).toInt64)) &&& ((nI n5) - 1))), some (.int 0), none] (by decide) rfl dX3_placeOf_22 ?_
  exact h
theorem eX3_placeOf {Γ : Gm} {d : Nat} {σ : AH} {Q : Oc → AH → Prop} {v0 : Nat} {v1 : Int64} (h : hs σ v0 = some (3, 8) ∧ ∃ t2 : Nat, gr σ v0 4 = some t2 ∧ ∃ n5 : Nat, hs σ t2 = some (22, n5) ∧ EV Γ MX3_placeOf d 24 [some (.ref v0), some (.long v1), none, some (.int ((nI n5) - 1)), some (.int ((Int64.toInt32 ((Int64.toUInt64 (v1 * (-7046029254386353131)) >>> ((Int32.toInt64 40).toUInt64 &&& Int64.toUInt64 63)).toInt64)) &&& ((nI n5) - 1))), some (.int 0), none] [] σ Q) : RUN Γ d MX3_placeOf [.ref v0, .long v1] σ Q :=
  EV.enter [some (.ref v0), some (.long v1), none, none, none, none, none] rfl (by decide +kernel) (Nat.le_of_ble_eq_true rfl) rfl (gX3_placeOf_0 h)
theorem gX3_placeOf_24 {Γ : Gm} {d : Nat} {σ : AH} {Q : Oc → AH → Prop} {v0 : Nat} {v1 : Int64} {v3 : Int32} {v4 : Int32} {v5 : Int32} (h : ((v3 < v5 → Q (.inl (some (.int v4))) σ) ∧ (¬ v3 < v5 → hs σ v0 = some (3, 8) ∧ ∃ t3 : Nat, gr σ v0 4 = some t3 ∧ ∃ n6 : Nat, hs σ t3 = some (22, n6) ∧ ∃ j7 : Nat, IX v4 n6 j7 ∧ (((gi σ t3 j7) = 0 → Q (.inl (some (.int v4))) σ) ∧ (¬ (gi σ t3 j7) = 0 → ∃ t10 : Nat, gr σ v0 1 = some t10 ∧ ∃ n13 : Nat, hs σ t10 = some (23, n13) ∧ ∃ j14 : Nat, IX (gi σ t3 j7) n13 j14 ∧ (((lg_cmp (gj σ t10 j14) v1) ≠ 0 → EV Γ MX3_placeOf d 24 [some (.ref v0), some (.long v1), none, some (.int v3), some (.int ((v4 + 1) &&& v3)), some (.int (v5 + 1)), none] [] σ Q) ∧ ((lg_cmp (gj σ t10 j14) v1) = 0 → Q (.inl (some (.int v4))) σ))))))) : EV Γ MX3_placeOf d 24 [some (.ref v0), some (.long v1), none, some (.int v3), some (.int v4), some (.int v5), none] [] σ Q := by
  refine EV.iload 26 rfl rfl dX3_placeOf_24 ?_
  refine EV.iload_n 27 rfl 3 rfl rfl dX3_placeOf_26 ?_
  refine EV.icmp_gt 30 73 rfl (by decide) dX3_placeOf_27 (fun c1 => ?_) (fun c1 => ?_)
  · have h := h.1 c1
    refine EV.iload 75 rfl rfl dX3_placeOf_73 ?_
    exact EV.iret rfl dX3_placeOf_75 h
  · have h := h.2 c1
    refine EV.aload_n 31 rfl 0 rfl rfl dX3_placeOf_30 ?_
    obtain ⟨w2, h⟩ := h
    obtain ⟨t3, g4, h⟩ := h
    refine EV.getR 34 rfl fl_X3_22 rfl dX3_placeOf_31 w2 g4 ?_
    refine EV.iload 36 rfl rfl dX3_placeOf_34 ?_
    obtain ⟨n6, w5, h⟩ := h
    obtain ⟨j7, x8, h⟩ := h
    refine EV.iald 37 rfl dX3_placeOf_36 w5 x8 ?_
    refine EV.istore 39 rfl [some (.ref v0), some (.long v1), none, some (.int v3), some (.int v4), some (.int v5), some (.int (gi σ t3 j7))] (by decide) rfl dX3_placeOf_37 ?_
    refine EV.iload 41 rfl rfl dX3_placeOf_39 ?_
    refine EV.if_eq 44 56 rfl (by decide) dX3_placeOf_41 (fun c9 => ?_) (fun c9 => ?_)
    · have h := h.1 c9
      refine EV.iload 58 rfl rfl dX3_placeOf_56 ?_
      exact EV.iret rfl dX3_placeOf_58 h
    · have h := h.2 c9
      refine EV.aload_n 45 rfl 0 rfl rfl dX3_placeOf_44 ?_
      obtain ⟨t10, g11, h⟩ := h
      refine EV.getR 48 rfl fl_X3_11 rfl dX3_placeOf_45 w2 g11 ?_
      refine EV.iload 50 rfl rfl dX3_placeOf_48 ?_
      obtain ⟨n13, w12, h⟩ := h
      obtain ⟨j14, x15, h⟩ := h
      refine EV.lald 51 rfl dX3_placeOf_50 w12 x15 ?_
      refine EV.lload_n 52 rfl 1 rfl rfl dX3_placeOf_51 ?_
      refine EV.lcmp 53 rfl dX3_placeOf_52 ?_
      refine EV.if_ne 56 59 rfl (by decide) dX3_placeOf_53 (fun c16 => ?_) (fun c16 => ?_)
      · have h := h.1 c16
        refine EV.iload 61 rfl rfl dX3_placeOf_59 ?_
        refine EV.iconst 62 rfl dX3_placeOf_61 (v := 1) (by decide) ?_
        refine EV.iadd 63 rfl dX3_placeOf_62 ?_
        refine EV.iload_n 64 rfl 3 rfl rfl dX3_placeOf_63 ?_
        refine EV.iand 65 rfl dX3_placeOf_64 ?_
        refine EV.istore 67 rfl [some (.ref v0), some (.long v1), none, some (.int v3), some (.int ((v4 + 1) &&& v3)), some (.int v5), some (.int (gi σ t3 j7))] (by decide) rfl dX3_placeOf_65 ?_
        refine EV.iinc 70 rfl [some (.ref v0), some (.long v1), none, some (.int v3), some (.int ((v4 + 1) &&& v3)), some (.int (v5 + 1)), some (.int (gi σ t3 j7))] (v := 1) (by decide) (by decide) rfl rfl dX3_placeOf_67 ?_
        refine EV.goto 24 (by decide) dX3_placeOf_70 ?_
        refine EV.mask [true, true, false, true, true, true, false] (L' := [some (.ref v0), some (.long v1), none, some (.int v3), some (.int ((v4 + 1) &&& v3)), some (.int (v5 + 1)), none]) rfl ?_
        exact h
      · have h := h.2 c16
        refine EV.iload 58 rfl rfl dX3_placeOf_56 ?_
        exact EV.iret rfl dX3_placeOf_58 h
theorem gX3_enlarge_0 {Γ : Gm} {d : Nat} {σ : AH} {Q : Oc → AH → Prop} {v0 : Nat} (h : hs σ v0 = some (3, 8) ∧ ∃ t2 : Nat, gr σ v0 1 = some t2 ∧ ∃ n5 : Nat, hs σ t2 = some (23, n5) ∧ CR Γ d MJ7_copyOf_c38d5 [.ref t2, .int ((2 : Int32) * (nI n5))] σ (fun r7 σ6 => hs σ6 v0 = some (3, 8) ∧ ∀ σ9 : AH, σ9 = setR σ6 v0 1 (some r7) → ∃ t12 : Nat, gr σ9 v0 2 = some t12 ∧ CR Γ d MJ7_copyOf_59c91 [.ref t12, .int ((2 : Int32) * (nI n5))] σ9 (fun r15 σ14 => hs σ14 v0 = some (3, 8) ∧ ∀ σ17 : AH, σ17 = setR σ14 v0 2 (some r15) → ∃ t20 : Nat, gr σ17 v0 3 = some t20 ∧ CR Γ d MJ7_copyOf_59c91 [.ref t20, .int ((2 : Int32) * (nI n5))] σ17 (fun r23 σ22 => hs σ22 v0 = some (3, 8) ∧ ∀ σ25 : AH, σ25 = setR σ22 v0 3 (some r23) → ∃ n28 : Nat, ((2 : Int32) * ((2 : Int32) * (nI n5))).toInt = (n28 : Int) ∧ n28 ≤ 60000000 ∧ ∀ (q31 : Nat) (σ32 : AH), q31 = lo Γ + hc σ25 → σ32 = mk σ25 q31 22 n28 → hs σ32 v0 = some (3, 8) ∧ ∀ σ35 : AH, σ35 = setR σ32 v0 4 (some q31) → EV Γ MX3_enlarge d 55 [some (.ref v0), none, some (.int 2)] [] σ35 Q) (fun _ _ => False)) (fun _ _ => False)) (fun _ _ => False)) : EV Γ MX3_enlarge d 0 [some (.ref v0), none, none] [] σ Q := by
  refine EV.iconst 1 rfl dX3_enlarge_0 (v := 2) (by decide) ?_
  refine EV.aload_n 2 rfl 0 rfl rfl dX3_enlarge_1 ?_
  obtain ⟨w1, h⟩ := h
  obtain ⟨t2, g3, h⟩ := h
  refine EV.getR 5 rfl fl_X3_11 rfl dX3_enlarge_2 w1 g3 ?_
  obtain ⟨n5, w4, h⟩ := h
  refine EV.alenJ 6 rfl dX3_enlarge_5 w4 ?_
  refine EV.imul 7 rfl dX3_enlarge_6 ?_
  refine EV.istore_n 8 rfl 1 [some (.ref v0), some (.int ((2 : Int32) * (nI n5))), none] rfl (by decide) rfl dX3_enlarge_7 ?_
  refine EV.aload_n 9 rfl 0 rfl rfl dX3_enlarge_8 ?_
  refine EV.aload_n 10 rfl 0 rfl rfl dX3_enlarge_9 ?_
  refine EV.getR 13 rfl fl_X3_11 rfl dX3_enlarge_10 w1 g3 ?_
  refine EV.iload_n 14 rfl 1 rfl rfl dX3_enlarge_13 ?_
  refine EV.cS rfl lk_X3_65 rfl (vs := [.ref t2, .int ((2 : Int32) * (nI n5))]) (st := [.ref v0]) rfl rfl (Nat.le_of_ble_eq_true rfl) dX3_enlarge_14 h (fun v σ6 h => ?_)
  obtain ⟨r7, rfl, h⟩ := h
  show EV Γ MX3_enlarge d 17 [some (.ref v0), some (.int ((2 : Int32) * (nI n5))), none] [.ref r7, .ref v0] σ6 Q
  obtain ⟨w8, h⟩ := h
  refine EV.putR 20 rfl fw_X3_11 rfl (by decide) dX3_enlarge_17 w8 (EV.nm (fun σ9 e10 => ?_))
  have h := h σ9 e10
  have w11 := tr_hs (hs_setR_of e10) w8
  refine EV.aload_n 21 rfl 0 rfl rfl dX3_enlarge_20 ?_
  refine EV.aload_n 22 rfl 0 rfl rfl dX3_enlarge_21 ?_
  obtain ⟨t12, g13, h⟩ := h
  refine EV.getR 25 rfl fl_X3_15 rfl dX3_enlarge_22 w11 g13 ?_
  refine EV.iload_n 26 rfl 1 rfl rfl dX3_enlarge_25 ?_
  refine EV.cS rfl lk_X3_71 rfl (vs := [.ref t12, .int ((2 : Int32) * (nI n5))]) (st := [.ref v0]) rfl rfl (Nat.le_of_ble_eq_true rfl) dX3_enlarge_26 h (fun v σ14 h => ?_)
  obtain ⟨r15, rfl, h⟩ := h
  show EV Γ MX3_enlarge d 29 [some (.ref v0), some (.int ((2 : Int32) * (nI n5))), none] [.ref r15, .ref v0] σ14 Q
  obtain ⟨w16, h⟩ := h
  refine EV.putR 32 rfl fw_X3_15 rfl (by decide) dX3_enlarge_29 w16 (EV.nm (fun σ17 e18 => ?_))
  have h := h σ17 e18
  have w19 := tr_hs (hs_setR_of e18) w16
  refine EV.aload_n 33 rfl 0 rfl rfl dX3_enlarge_32 ?_
  refine EV.aload_n 34 rfl 0 rfl rfl dX3_enlarge_33 ?_
  obtain ⟨t20, g21, h⟩ := h
  refine EV.getR 37 rfl fl_X3_19 rfl dX3_enlarge_34 w19 g21 ?_
  refine EV.iload_n 38 rfl 1 rfl rfl dX3_enlarge_37 ?_
  refine EV.cS rfl lk_X3_71 rfl (vs := [.ref t20, .int ((2 : Int32) * (nI n5))]) (st := [.ref v0]) rfl rfl (Nat.le_of_ble_eq_true rfl) dX3_enlarge_38 h (fun v σ22 h => ?_)
  obtain ⟨r23, rfl, h⟩ := h
  show EV Γ MX3_enlarge d 41 [some (.ref v0), some (.int ((2 : Int32) * (nI n5))), none] [.ref r23, .ref v0] σ22 Q
  obtain ⟨w24, h⟩ := h
  refine EV.putR 44 rfl fw_X3_19 rfl (by decide) dX3_enlarge_41 w24 (EV.nm (fun σ25 e26 => ?_))
  have h := h σ25 e26
  have w27 := tr_hs (hs_setR_of e26) w24
  refine EV.aload_n 45 rfl 0 rfl rfl dX3_enlarge_44 ?_
  refine EV.iconst 46 rfl dX3_enlarge_45 (v := 2) (by decide) ?_
  refine EV.iload_n 47 rfl 1 rfl rfl dX3_enlarge_46 ?_
  refine EV.imul 48 rfl dX3_enlarge_47 ?_
  obtain ⟨n28, z29, z30, h⟩ := h
  refine EV.newI 50 rfl (n := n28) ac_int dX3_enlarge_48 z29 z30 (EV.nq (fun q31 σ32 eq31 eσ32 => ?_))
  have h := h q31 σ32 eq31 eσ32
  have w33 : hs σ32 q31 = some (22, n28) := by rw [eσ32]; exact up_same _ _ _
  obtain ⟨w34, h⟩ := h
  refine EV.putR 53 rfl fw_X3_22 rfl (by decide) dX3_enlarge_50 w34 (EV.nm (fun σ35 e36 => ?_))
  have h := h σ35 e36
  have w37 := tr_hs (hs_setR_of e36) w33
  have w38 := tr_hs (hs_setR_of e36) w34
  refine EV.iconst 54 rfl dX3_enlarge_53 (v := 2) (by decide) ?_
  refine EV.istore_n 55 rfl 2 [some (.ref v0), some (.int ((2 : Int32) * (nI n5))), some (.int 2)] rfl (by decide) rfl dX3_enlarge_54 ?_
  refine EV.mask [true, false, true] (L' := [some (.ref v0), none, some (.int 2)]) rfl ?_
  exact h
theorem eX3_enlarge {Γ : Gm} {d : Nat} {σ : AH} {Q : Oc → AH → Prop} {v0 : Nat} (h : hs σ v0 = some (3, 8) ∧ ∃ t2 : Nat, gr σ v0 1 = some t2 ∧ ∃ n5 : Nat, hs σ t2 = some (23, n5) ∧ CR Γ d MJ7_copyOf_c38d5 [.ref t2, .int ((2 : Int32) * (nI n5))] σ (fun r7 σ6 => hs σ6 v0 = some (3, 8) ∧ ∀ σ9 : AH, σ9 = setR σ6 v0 1 (some r7) → ∃ t12 : Nat, gr σ9 v0 2 = some t12 ∧ CR Γ d MJ7_copyOf_59c91 [.ref t12, .int ((2 : Int32) * (nI n5))] σ9 (fun r15 σ14 => hs σ14 v0 = some (3, 8) ∧ ∀ σ17 : AH, σ17 = setR σ14 v0 2 (some r15) → ∃ t20 : Nat, gr σ17 v0 3 = some t20 ∧ CR Γ d MJ7_copyOf_59c91 [.ref t20, .int ((2 : Int32) * (nI n5))] σ17 (fun r23 σ22 => hs σ22 v0 = some (3, 8) ∧ ∀ σ25 : AH, σ25 = setR σ22 v0 3 (some r23) → ∃ n28 : Nat, ((2 : Int32) * ((2 : Int32) * (nI n5))).toInt = (n28 : Int) ∧ n28 ≤ 60000000 ∧ ∀ (q31 : Nat) (σ32 : AH), q31 = lo Γ + hc σ25 → σ32 = mk σ25 q31 22 n28 → hs σ32 v0 = some (3, 8) ∧ ∀ σ35 : AH, σ35 = setR σ32 v0 4 (some q31) → EV Γ MX3_enlarge d 55 [some (.ref v0), none, some (.int 2)] [] σ35 Q) (fun _ _ => False)) (fun _ _ => False)) (fun _ _ => False)) : RUN Γ d MX3_enlarge [.ref v0] σ Q :=
  EV.enter [some (.ref v0), none, none] rfl (by decide +kernel) (Nat.le_of_ble_eq_true rfl) rfl (gX3_enlarge_0 h)
theorem gX3_enlarge_55 {Γ : Gm} {d : Nat} {σ : AH} {Q : Oc → AH → Prop} {v0 : Nat} {v2 : Int32} (h : hs σ v0 = some (3, 8) ∧ (((gi σ v0 5) ≤ v2 → Q (.inl none) σ) ∧ (¬ (gi σ v0 5) ≤ v2 → ∃ t3 : Nat, gr σ v0 4 = some t3 ∧ ∃ t5 : Nat, gr σ v0 1 = some t5 ∧ ∃ n8 : Nat, hs σ t5 = some (23, n8) ∧ ∃ j9 : Nat, IX v2 n8 j9 ∧ CI Γ d MX3_placeOf [.ref v0, .long (gj σ t5 j9)] σ (fun r12 σ11 => ∃ n14 : Nat, hs σ11 t3 = some (22, n14) ∧ ∃ j15 : Nat, IX r12 n14 j15 ∧ ∀ σ17 : AH, σ17 = setI σ11 t3 j15 v2 → EV Γ MX3_enlarge d 55 [some (.ref v0), none, some (.int (v2 + 1))] [] σ17 Q) (fun E σ11 => Q (.inr E) σ11)))) : EV Γ MX3_enlarge d 55 [some (.ref v0), none, some (.int v2)] [] σ Q := by
  refine EV.iload_n 56 rfl 2 rfl rfl dX3_enlarge_55 ?_
  refine EV.aload_n 57 rfl 0 rfl rfl dX3_enlarge_56 ?_
  obtain ⟨w1, h⟩ := h
  refine EV.getI 60 rfl fl_X3_25 rfl dX3_enlarge_57 w1 ?_
  refine EV.icmp_ge 63 85 rfl (by decide) dX3_enlarge_60 (fun c2 => ?_) (fun c2 => ?_)
  · have h := h.1 c2
    exact EV.vret rfl dX3_enlarge_85 h
  · have h := h.2 c2
    refine EV.aload_n 64 rfl 0 rfl rfl dX3_enlarge_63 ?_
    obtain ⟨t3, g4, h⟩ := h
    refine EV.getR 67 rfl fl_X3_22 rfl dX3_enlarge_64 w1 g4 ?_
    refine EV.aload_n 68 rfl 0 rfl rfl dX3_enlarge_67 ?_
    refine EV.aload_n 69 rfl 0 rfl rfl dX3_enlarge_68 ?_
    obtain ⟨t5, g6, h⟩ := h
    refine EV.getR 72 rfl fl_X3_11 rfl dX3_enlarge_69 w1 g6 ?_
    refine EV.iload_n 73 rfl 2 rfl rfl dX3_enlarge_72 ?_
    obtain ⟨n8, w7, h⟩ := h
    obtain ⟨j9, x10, h⟩ := h
    refine EV.lald 74 rfl dX3_enlarge_73 w7 x10 ?_
    refine EV.cV rfl rfl lk_X3_59 rfl (vs := [.long (gj σ t5 j9)]) (st := [.ref t3]) rfl rfl (Nat.le_of_ble_eq_true rfl) dX3_enlarge_74 w1 h (fun v σ11 h => ?_)
    obtain ⟨r12, rfl, h⟩ := h
    show EV Γ MX3_enlarge d 77 [some (.ref v0), none, some (.int v2)] [.int r12, .ref t3] σ11 Q
    refine EV.iload_n 78 rfl 2 rfl rfl dX3_enlarge_77 ?_
    obtain ⟨n14, w13, h⟩ := h
    obtain ⟨j15, x16, h⟩ := h
    refine EV.iast 79 rfl dX3_enlarge_78 w13 x16 (EV.nm (fun σ17 e18 => ?_))
    have h := h σ17 e18
    have w19 := tr_hs (hs_setI_of e18) w13
    refine EV.iinc 82 rfl [some (.ref v0), none, some (.int (v2 + 1))] (v := 1) (by decide) (by decide) rfl rfl dX3_enlarge_79 ?_
    refine EV.goto 55 (by decide) dX3_enlarge_82 ?_
    exact h
