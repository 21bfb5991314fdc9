theorem gX1_init_0 {Γ : Gm} {d : Nat} {σ : AH} {Q : Oc → AH → Prop} {v0 : Nat} (h : 1 ≤ d ∧ ∀ (q2 : Nat) (σ3 : AH), q2 = lo Γ + hc σ → σ3 = mk σ q2 26 43 → hs σ3 v0 = some (1, 2) ∧ ∀ σ6 : AH, σ6 = setR σ3 v0 0 (some q2) → ∀ σ10 : AH, σ10 = setI σ6 v0 1 0 → Q (.inl none) σ10) : EV Γ MX1_init d 0 [some (.ref v0)] [] σ Q := by
  refine EV.aload_n 1 rfl 0 rfl rfl dX1_init_0 ?_
  obtain ⟨z1, h⟩ := h
  refine EV.objInit 4 rfl oi_X1_3 z1 (Nat.le_of_ble_eq_true rfl) dX1_init_1 ?_
  refine EV.aload_n 5 rfl 0 rfl rfl dX1_init_4 ?_
  refine EV.bipush 7 rfl dX1_init_5 (v := 43) (by decide) ?_
  refine EV.newM 10 rfl (n := 43) an_X1_11 ao_J dX1_init_7 (by decide) (Nat.le_of_ble_eq_true rfl) (EV.nq (fun q2 σ3 eq2 eσ3 => ?_))
  have h := h q2 σ3 eq2 eσ3
  have w4 : hs σ3 q2 = some (26, 43) := by rw [eσ3]; exact up_same _ _ _
  obtain ⟨w5, h⟩ := h
  refine EV.putFR 13 rfl rfl ff_X1_13 rfl (by decide) dX1_init_10 w5 (EV.nm (fun σ6 e7 => ?_))
  have h := h σ6 e7
  have w8 := tr_hs (hs_setR_of e7) w4
  have w9 := tr_hs (hs_setR_of e7) w5
  refine EV.aload_n 14 rfl 0 rfl rfl dX1_init_13 ?_
  refine EV.iconst 15 rfl dX1_init_14 (v := 0) (by decide) ?_
  refine EV.putI 18 rfl fw_X1_17 rfl (by decide) dX1_init_15 w9 (EV.nm (fun σ10 e11 => ?_))
  have h := h σ10 e11
  have w12 := tr_hs (hs_setI_of e11) w8
  have w13 := tr_hs (hs_setI_of e11) w9
  exact EV.vret rfl dX1_init_18 h
theorem eX1_init {Γ : Gm} {d : Nat} {σ : AH} {Q : Oc → AH → Prop} {v0 : Nat} (h : 1 ≤ d ∧ ∀ (q2 : Nat) (σ3 : AH), q2 = lo Γ + hc σ → σ3 = mk σ q2 26 43 → hs σ3 v0 = some (1, 2) ∧ ∀ σ6 : AH, σ6 = setR σ3 v0 0 (some q2) → ∀ σ10 : AH, σ10 = setI σ6 v0 1 0 → Q (.inl none) σ10) : RUN Γ d MX1_init [.ref v0] σ Q :=
  EV.enter [some (.ref v0)] rfl (by decide +kernel) (Nat.le_of_ble_eq_true rfl) rfl (gX1_init_0 h)
theorem gX1_run_0 {Γ : Gm} {d : Nat} {σ : AH} {Q : Oc → AH → Prop} {v0 : Nat} {v1 : Nat} {v2 : Nat} {v3 : Nat} (h : hs σ v0 = some (1, 2) ∧ ∀ σ2 : AH, σ2 = setI σ v0 1 0 → hs σ2 v1 = some (5, 10) ∧ 1 ≤ d ∧ EV Γ MX1_run d 20 [some (.ref v0), some (.ref v1), some (.ref v2), some (.ref v3), some (.int (if 200 < (gi σ2 v1 2) then 200 else (gi σ2 v1 2))), some (.int 0), none, none] [] σ2 Q) : EV Γ MX1_run d 0 [some (.ref v0), some (.ref v1), some (.ref v2), some (.ref v3), none, none, none, none] [] σ Q := by
  refine EV.aload_n 1 rfl 0 rfl rfl dX1_run_0 ?_
  refine EV.iconst 2 rfl dX1_run_1 (v := 0) (by decide) ?_
  obtain ⟨w1, h⟩ := h
  refine EV.putI 5 rfl fw_X1_17 rfl (by decide) dX1_run_2 w1 (EV.nm (fun σ2 e3 => ?_))
  have h := h σ2 e3
  have w4 := tr_hs (hs_setI_of e3) w1
  refine EV.aload_n 6 rfl 1 rfl rfl dX1_run_5 ?_
  obtain ⟨w5, h⟩ := h
  refine EV.getIN 9 rfl fn_X1_21 rfl dX1_run_6 w5 ?_
  refine EV.sipush 12 rfl dX1_run_9 (v := 200) (by decide) ?_
  obtain ⟨z6, h⟩ := h
  refine EV.mmin 15 rfl mm_X1_26 z6 (Nat.le_of_ble_eq_true rfl) dX1_run_12 ?_
  refine EV.istore 17 rfl [some (.ref v0), some (.ref v1), some (.ref v2), some (.ref v3), some (.int (if 200 < (gi σ2 v1 2) then 200 else (gi σ2 v1 2))), none, none, none] (by decide) rfl dX1_run_15 ?_
  refine EV.iconst 18 rfl dX1_run_17 (v := 0) (by decide) ?_
  refine EV.istore 20 rfl [some (.ref v0), some (.ref v1), some (.ref v2), some (.ref v3), some (.int (if 200 < (gi σ2 v1 2) then 200 else (gi σ2 v1 2))), some (.int 0), none, none] (by decide) rfl dX1_run_18 ?_
  exact h
theorem eX1_run {Γ : Gm} {d : Nat} {σ : AH} {Q : Oc → AH → Prop} {v0 : Nat} {v1 : Nat} {v2 : Nat} {v3 : Nat} (h : hs σ v0 = some (1, 2) ∧ ∀ σ2 : AH, σ2 = setI σ v0 1 0 → hs σ2 v1 = some (5, 10) ∧ 1 ≤ d ∧ EV Γ MX1_run d 20 [some (.ref v0), some (.ref v1), some (.ref v2), some (.ref v3), some (.int (if 200 < (gi σ2 v1 2) then 200 else (gi σ2 v1 2))), some (.int 0), none, none] [] σ2 Q) : RUN Γ d MX1_run [.ref v0, .ref v1, .ref v2, .ref v3] σ Q :=
  EV.enter [some (.ref v0), some (.ref v1), some (.ref v2), some (.ref v3), none, none, none, none] rfl (by decide +kernel) (Nat.le_of_ble_eq_true rfl) rfl (gX1_run_0 h)
theorem gX1_run_20 {Γ : Gm} {d : Nat} {σ : AH} {Q : Oc → AH → Prop} {v0 : Nat} {v1 : Nat} {v2 : Nat} {v3 : Nat} {v4 : Int32} {v5 : Int32} (h : ((v4 ≤ v5 → hs σ v0 = some (1, 2) ∧ CR Γ d MX1_row [.ref v0, .int 0] σ (fun r3 σ2 => Q (.inl (some (.ref r3))) σ2) (fun E σ2 => Q (.inr E) σ2)) ∧ (¬ v4 ≤ v5 → hs σ v1 = some (5, 10) ∧ ∃ t6 : Nat, gr σ v1 0 = some t6 ∧ ∃ n9 : Nat, hs σ t6 = some (22, n9) ∧ ∃ j10 : Nat, IX v5 n9 j10 ∧ ∃ t12 : Nat, gr σ v1 1 = some t12 ∧ ∃ n15 : Nat, hs σ t12 = some (22, n15) ∧ ∃ j16 : Nat, IX v5 n15 j16 ∧ (((gi σ t6 j10) ≠ 8 → (((gi σ t6 j10) ≠ 9 → (((gi σ t6 j10) ≠ 10 → hs σ v0 = some (1, 2) ∧ CI Γ d MX1_apply [.ref v0, .int (gi σ t6 j10), .ref v3] σ (fun r22 σ21 => ((r22 ≠ 0 → EV Γ MX1_run d 20 [some (.ref v0), some (.ref v1), some (.ref v2), some (.ref v3), some (.int v4), some (.int (v5 + 1)), none, none] [] σ21 Q) ∧ (r22 = 0 → Q (.inl (some .null)) σ21))) (fun E σ21 => Q (.inr E) σ21)) ∧ ((gi σ t6 j10) = 10 → hs σ v0 = some (1, 2) ∧ CV Γ d MX1_pushFamily [.ref v0, .ref v2, .int (gi σ t12 j16)] σ (fun σ25 => EV Γ MX1_run d 20 [some (.ref v0), some (.ref v1), some (.ref v2), some (.ref v3), some (.int v4), some (.int (v5 + 1)), none, none] [] σ25 Q) (fun E σ25 => Q (.inr E) σ25)))) ∧ ((gi σ t6 j10) = 9 → hs σ v0 = some (1, 2) ∧ CR Γ d MX1_push [.ref v0] σ (fun r29 σ28 => EV Γ MX1_run d 20 [some (.ref v0), some (.ref v1), some (.ref v2), some (.ref v3), some (.int v4), some (.int (v5 + 1)), none, none] [] σ28 Q) (fun E σ28 => Q (.inr E) σ28)))) ∧ ((gi σ t6 j10) = 8 → hs σ v0 = some (1, 2) ∧ CR Γ d MX1_push [.ref v0] σ (fun r32 σ31 => CV Γ d MX7_put [.ref r32, .int (gi σ t12 j16)] σ31 (fun σ34 => EV Γ MX1_run d 20 [some (.ref v0), some (.ref v1), some (.ref v2), some (.ref v3), some (.int v4), some (.int (v5 + 1)), none, none] [] σ34 Q) (fun _ _ => False)) (fun E σ31 => Q (.inr E) σ31)))))) : EV Γ MX1_run d 20 [some (.ref v0), some (.ref v1), some (.ref v2), some (.ref v3), some (.int v4), some (.int v5), none, none] [] σ Q := by
  refine EV.iload 22 rfl rfl dX1_run_20 ?_
  refine EV.iload 24 rfl rfl dX1_run_22 ?_
  refine EV.icmp_ge 27 114 rfl (by decide) dX1_run_24 (fun c1 => ?_) (fun c1 => ?_)
  · have h := h.1 c1
    refine EV.aload_n 115 rfl 0 rfl rfl dX1_run_114 ?_
    refine EV.iconst 116 rfl dX1_run_115 (v := 0) (by decide) ?_
    obtain ⟨w4, h⟩ := h
    refine EV.cV rfl rfl lk_X1_57 rfl (vs := [.int 0]) (st := []) rfl rfl (Nat.le_of_ble_eq_true rfl) dX1_run_116 w4 h (fun v σ2 h => ?_)
    obtain ⟨r3, rfl, h⟩ := h
    show EV Γ MX1_run d 119 [some (.ref v0), some (.ref v1), some (.ref v2), some (.ref v3), some (.int v4), some (.int v5), none, none] [.ref r3] σ2 Q
    exact EV.aret rfl (Or.inr ⟨_, rfl⟩) dX1_run_119 h
  · have h := h.2 c1
    refine EV.aload_n 28 rfl 1 rfl rfl dX1_run_27 ?_
    obtain ⟨w5, h⟩ := h
    obtain ⟨t6, g7, h⟩ := h
    refine EV.getRN 31 rfl fn_X1_32 rfl dX1_run_28 w5 g7 ?_
    refine EV.iload 33 rfl rfl dX1_run_31 ?_
    obtain ⟨n9, w8, h⟩ := h
    obtain ⟨j10, x11, h⟩ := h
    refine EV.iald 34 rfl dX1_run_33 w8 x11 ?_
    refine EV.istore 36 rfl [some (.ref v0), some (.ref v1), some (.ref v2), some (.ref v3), some (.int v4), some (.int v5), some (.int (gi σ t6 j10)), none] (by decide) rfl dX1_run_34 ?_
    refine EV.aload_n 37 rfl 1 rfl rfl dX1_run_36 ?_
    obtain ⟨t12, g13, h⟩ := h
    refine EV.getRN 40 rfl fn_X1_36 rfl dX1_run_37 w5 g13 ?_
    refine EV.iload 42 rfl rfl dX1_run_40 ?_
    obtain ⟨n15, w14, h⟩ := h
    obtain ⟨j16, x17, h⟩ := h
    refine EV.iald 43 rfl dX1_run_42 w14 x17 ?_
    refine EV.istore 45 rfl [some (.ref v0), some (.ref v1), some (.ref v2), some (.ref v3), some (.int v4), some (.int v5), some (.int (gi σ t6 j10)), some (.int (gi σ t12 j16))] (by decide) rfl dX1_run_43 ?_
    refine EV.iload 47 rfl rfl dX1_run_45 ?_
    refine EV.bipush 49 rfl dX1_run_47 (v := 8) (by decide) ?_
    refine EV.icmp_ne 52 64 rfl (by decide) dX1_run_49 (fun c18 => ?_) (fun c18 => ?_)
    · have h := h.1 c18
      refine EV.iload 66 rfl rfl dX1_run_64 ?_
      refine EV.bipush 68 rfl dX1_run_66 (v := 9) (by decide) ?_
      refine EV.icmp_ne 71 79 rfl (by decide) dX1_run_68 (fun c19 => ?_) (fun c19 => ?_)
      · have h := h.1 c19
        refine EV.iload 81 rfl rfl dX1_run_79 ?_
        refine EV.bipush 83 rfl dX1_run_81 (v := 10) (by decide) ?_
        refine EV.icmp_ne 86 96 rfl (by decide) dX1_run_83 (fun c20 => ?_) (fun c20 => ?_)
        · have h := h.1 c20
          refine EV.aload_n 97 rfl 0 rfl rfl dX1_run_96 ?_
          refine EV.iload 99 rfl rfl dX1_run_97 ?_
          refine EV.aload_n 100 rfl 3 rfl rfl dX1_run_99 ?_
          obtain ⟨w23, h⟩ := h
          refine EV.cV rfl rfl lk_X1_53 rfl (vs := [.int (gi σ t6 j10), .ref v3]) (st := []) rfl rfl (Nat.le_of_ble_eq_true rfl) dX1_run_100 w23 h (fun v σ21 h => ?_)
          obtain ⟨r22, rfl, h⟩ := h
          show EV Γ MX1_run d 103 [some (.ref v0), some (.ref v1), some (.ref v2), some (.ref v3), some (.int v4), some (.int v5), some (.int (gi σ t6 j10)), some (.int (gi σ t12 j16))] [.int r22] σ21 Q
          refine EV.if_ne 106 108 rfl (by decide) dX1_run_103 (fun c24 => ?_) (fun c24 => ?_)
          · have h := h.1 c24
            refine EV.iinc 111 rfl [some (.ref v0), some (.ref v1), some (.ref v2), some (.ref v3), some (.int v4), some (.int (v5 + 1)), some (.int (gi σ t6 j10)), some (.int (gi σ t12 j16))] (v := 1) (by decide) (by decide) rfl rfl dX1_run_108 ?_
            refine EV.goto 20 (by decide) dX1_run_111 ?_
            refine EV.mask [true, true, true, true, true, true, false, false] (L' := [some (.ref v0), some (.ref v1), some (.ref v2), some (.ref v3), some (.int v4), some (.int (v5 + 1)), none, none]) rfl ?_
            exact h
          · have h := h.2 c24
            refine EV.aconst_null 107 rfl dX1_run_106 ?_
            exact EV.aretN rfl (Or.inr ⟨_, rfl⟩) dX1_run_107 h
        · have h := h.2 c20
          refine EV.aload_n 87 rfl 0 rfl rfl dX1_run_86 ?_
          refine EV.aload_n 88 rfl 2 rfl rfl dX1_run_87 ?_
          refine EV.iload 90 rfl rfl dX1_run_88 ?_
          obtain ⟨w27, h⟩ := h
          refine EV.cV rfl rfl lk_X1_49 rfl (vs := [.ref v2, .int (gi σ t12 j16)]) (st := []) rfl rfl (Nat.le_of_ble_eq_true rfl) dX1_run_90 w27 h (fun v σ25 h => ?_)
          obtain ⟨rfl, h⟩ := h
          show EV Γ MX1_run d 93 [some (.ref v0), some (.ref v1), some (.ref v2), some (.ref v3), some (.int v4), some (.int v5), some (.int (gi σ t6 j10)), some (.int (gi σ t12 j16))] [] σ25 Q
          refine EV.goto 108 (by decide) dX1_run_93 ?_
          refine EV.iinc 111 rfl [some (.ref v0), some (.ref v1), some (.ref v2), some (.ref v3), some (.int v4), some (.int (v5 + 1)), some (.int (gi σ t6 j10)), some (.int (gi σ t12 j16))] (v := 1) (by decide) (by decide) rfl rfl dX1_run_108 ?_
          refine EV.goto 20 (by decide) dX1_run_111 ?_
          refine EV.mask [true, true, true, true, true, true, false, false] (L' := [some (.ref v0), some (.ref v1), some (.ref v2), some (.ref v3), some (.int v4), some (.int (v5 + 1)), none, none]) rfl ?_
          exact h
      · have h := h.2 c19
        refine EV.aload_n 72 rfl 0 rfl rfl dX1_run_71 ?_
        obtain ⟨w30, h⟩ := h
        refine EV.cV rfl rfl lk_X1_39 rfl (vs := []) (st := []) rfl rfl (Nat.le_of_ble_eq_true rfl) dX1_run_72 w30 h (fun v σ28 h => ?_)
        obtain ⟨r29, rfl, h⟩ := h
        show EV Γ MX1_run d 75 [some (.ref v0), some (.ref v1), some (.ref v2), some (.ref v3), some (.int v4), some (.int v5), some (.int (gi σ t6 j10)), some (.int (gi σ t12 j16))] [.ref r29] σ28 Q
        refine EV.pop 76 rfl dX1_run_75 rfl ?_
        refine EV.goto 108 (by decide) dX1_run_76 ?_
        refine EV.iinc 111 rfl [some (.ref v0), some (.ref v1), some (.ref v2), some (.ref v3), some (.int v4), some (.int (v5 + 1)), some (.int (gi σ t6 j10)), some (.int (gi σ t12 j16))] (v := 1) (by decide) (by decide) rfl rfl dX1_run_108 ?_
        refine EV.goto 20 (by decide) dX1_run_111 ?_
        refine EV.mask [true, true, true, true, true, true, false, false] (L' := [some (.ref v0), some (.ref v1), some (.ref v2), some (.ref v3), some (.int v4), some (.int (v5 + 1)), none, none]) rfl ?_
        exact h
    · have h := h.2 c18
      refine EV.aload_n 53 rfl 0 rfl rfl dX1_run_52 ?_
      obtain ⟨w33, h⟩ := h
      refine EV.cV rfl rfl lk_X1_39 rfl (vs := []) (st := []) rfl rfl (Nat.le_of_ble_eq_true rfl) dX1_run_53 w33 h (fun v σ31 h => ?_)
      obtain ⟨r32, rfl, h⟩ := h
      show EV Γ MX1_run d 56 [some (.ref v0), some (.ref v1), some (.ref v2), some (.ref v3), some (.int v4), some (.int v5), some (.int (gi σ t6 j10)), some (.int (gi σ t12 j16))] [.ref r32] σ31 Q
      refine EV.iload 58 rfl rfl dX1_run_56 ?_
      refine EV.cS rfl lk_X1_43 rfl (vs := [.ref r32, .int (gi σ t12 j16)]) (st := []) rfl rfl (Nat.le_of_ble_eq_true rfl) dX1_run_58 h (fun v σ34 h => ?_)
      obtain ⟨rfl, h⟩ := h
      show EV Γ MX1_run d 61 [some (.ref v0), some (.ref v1), some (.ref v2), some (.ref v3), some (.int v4), some (.int v5), some (.int (gi σ t6 j10)), some (.int (gi σ t12 j16))] [] σ34 Q
      refine EV.goto 108 (by decide) dX1_run_61 ?_
      refine EV.iinc 111 rfl [some (.ref v0), some (.ref v1), some (.ref v2), some (.ref v3), some (.int v4), some (.int (v5 + 1)), some (.int (gi σ t6 j10)), some (.int (gi σ t12 j16))] (v := 1) (by decide) (by decide) rfl rfl dX1_run_108 ?_
      refine EV.goto 20 (by decide) dX1_run_111 ?_
      refine EV.mask [true, true, true, true, true, true, false, false] (L' := [some (.ref v0), some (.ref v1), some (.ref v2), some (.ref v3), some (.int v4), some (.int (v5 + 1)), none, none]) rfl ?_
      exact h
theorem gX1_apply_0 {Γ : Gm} {d : Nat} {σ : AH} {Q : Oc → AH → Prop} {v0 : Nat} {v1 : Int32} {v2 : Nat} (h : ((v1 = 4 → EV Γ MX1_apply d 22 [some (.ref v0), some (.int v1), some (.ref v2), none] [] σ Q) ∧ (¬ v1 = 4 → ((v1 = 5 → EV Γ MX1_apply d 22 [some (.ref v0), some (.int v1), some (.ref v2), none] [] σ Q) ∧ (¬ v1 = 5 → ((v1 = 6 → EV Γ MX1_apply d 22 [some (.ref v0), some (.int v1), some (.ref v2), none] [] σ Q) ∧ (¬ v1 = 6 → ((v1 ≠ 7 → hs σ v0 = some (1, 2) ∧ ∀ σ6 : AH, σ6 = setI σ v0 1 ((gi σ v0 1) - 1) → CR Γ d MX1_row [.ref v0, .int (gi σ6 v0 1)] σ6 (fun r10 σ9 => ((v1 = 47 → EV Γ MX1_apply d 70 [some (.ref v0), some (.int v1), some (.ref v2), some (.ref r10)] [] σ9 Q) ∧ (¬ v1 = 47 → ((v1 ≠ 37 → EV Γ MX1_apply d 79 [some (.ref v0), some (.int v1), some (.ref v2), some (.ref r10)] [] σ9 Q) ∧ (v1 = 37 → EV Γ MX1_apply d 70 [some (.ref v0), some (.int v1), some (.ref v2), some (.ref r10)] [] σ9 Q))))) (fun E σ9 => Q (.inr E) σ9)) ∧ (v1 = 7 → EV Γ MX1_apply d 22 [some (.ref v0), some (.int v1), some (.ref v2), none] [] σ Q))))))))) : EV Γ MX1_apply d 0 [some (.ref v0), some (.int v1), some (.ref v2), none] [] σ Q := by
  refine EV.iload_n 1 rfl 1 rfl rfl dX1_apply_0 ?_
  refine EV.iconst 2 rfl dX1_apply_1 (v := 4) (by decide) ?_
  refine EV.icmp_eq 5 22 rfl (by decide) dX1_apply_2 (fun c1 => ?_) (fun c1 => ?_)
  · have h := h.1 c1
    exact h
  · have h := h.2 c1
    refine EV.iload_n 6 rfl 1 rfl rfl dX1_apply_5 ?_
    refine EV.iconst 7 rfl dX1_apply_6 (v := 5) (by decide) ?_
    refine EV.icmp_eq 10 22 rfl (by decide) dX1_apply_7 (fun c2 => ?_) (fun c2 => ?_)
    · have h := h.1 c2
      exact h
    · have h := h.2 c2
      refine EV.iload_n 11 rfl 1 rfl rfl dX1_apply_10 ?_
      refine EV.bipush 13 rfl dX1_apply_11 (v := 6) (by decide) ?_
      refine EV.icmp_eq 16 22 rfl (by decide) dX1_apply_13 (fun c3 => ?_) (fun c3 => ?_)
      · have h := h.1 c3
        exact h
      · have h := h.2 c3
        refine EV.iload_n 17 rfl 1 rfl rfl dX1_apply_16 ?_
        refine EV.bipush 19 rfl dX1_apply_17 (v := 7) (by decide) ?_
        refine EV.icmp_ne 22 39 rfl (by decide) dX1_apply_19 (fun c4 => ?_) (fun c4 => ?_)
        · have h := h.1 c4
          refine EV.aload_n 40 rfl 0 rfl rfl dX1_apply_39 ?_
          refine EV.dup 41 rfl dX1_apply_40 rfl ?_
          obtain ⟨w5, h⟩ := h
          refine EV.getI 44 rfl fl_X1_17 rfl dX1_apply_41 w5 ?_
          refine EV.iconst 45 rfl dX1_apply_44 (v := 1) (by decide) ?_
          refine EV.isub 46 rfl dX1_apply_45 ?_
          refine EV.putI 49 rfl fw_X1_17 rfl (by decide) dX1_apply_46 w5 (EV.nm (fun σ6 e7 => ?_))
          have h := h σ6 e7
          have w8 := tr_hs (hs_setI_of e7) w5
          refine EV.aload_n 50 rfl 0 rfl rfl dX1_apply_49 ?_
          refine EV.aload_n 51 rfl 0 rfl rfl dX1_apply_50 ?_
          refine EV.getI 54 rfl fl_X1_17 rfl dX1_apply_51 w8 ?_
          refine EV.cV rfl rfl lk_X1_57 rfl (vs := [.int (gi σ6 v0 1)]) (st := []) rfl rfl (Nat.le_of_ble_eq_true rfl) dX1_apply_54 w8 h (fun v σ9 h => ?_)
          obtain ⟨r10, rfl, h⟩ := h
          show EV Γ MX1_apply d 57 [some (.ref v0), some (.int v1), some (.ref v2), none] [.ref r10] σ9 Q
          refine EV.astore_n 58 rfl 3 [some (.ref v0), some (.int v1), some (.ref v2), some (.ref r10)] rfl (by decide) rfl dX1_apply_57 ?_
          refine EV.iload_n 59 rfl 1 rfl rfl dX1_apply_58 ?_
          refine EV.bipush 61 rfl dX1_apply_59 (v := 47) (by decide) ?_
          refine EV.icmp_eq 64 70 rfl (by decide) dX1_apply_61 (fun c11 => ?_) (fun c11 => ?_)
          · have h := h.1 c11
            exact h
          · have h := h.2 c11
            refine EV.iload_n 65 rfl 1 rfl rfl dX1_apply_64 ?_
            refine EV.bipush 67 rfl dX1_apply_65 (v := 37) (by decide) ?_
            refine EV.icmp_ne 70 79 rfl (by decide) dX1_apply_67 (fun c12 => ?_) (fun c12 => ?_)
            · have h := h.1 c12
              exact h
            · have h := h.2 c12
              exact h
        · have h := h.2 c4
          exact h
theorem eX1_apply {Γ : Gm} {d : Nat} {σ : AH} {Q : Oc → AH → Prop} {v0 : Nat} {v1 : Int32} {v2 : Nat} (h : ((v1 = 4 → EV Γ MX1_apply d 22 [some (.ref v0), some (.int v1), some (.ref v2), none] [] σ Q) ∧ (¬ v1 = 4 → ((v1 = 5 → EV Γ MX1_apply d 22 [some (.ref v0), some (.int v1), some (.ref v2), none] [] σ Q) ∧ (¬ v1 = 5 → ((v1 = 6 → EV Γ MX1_apply d 22 [some (.ref v0), some (.int v1), some (.ref v2), none] [] σ Q) ∧ (¬ v1 = 6 → ((v1 ≠ 7 → hs σ v0 = some (1, 2) ∧ ∀ σ6 : AH, σ6 = setI σ v0 1 ((gi σ v0 1) - 1) → CR Γ d MX1_row [.ref v0, .int (gi σ6 v0 1)] σ6 (fun r10 σ9 => ((v1 = 47 → EV Γ MX1_apply d 70 [some (.ref v0), some (.int v1), some (.ref v2), some (.ref r10)] [] σ9 Q) ∧ (¬ v1 = 47 → ((v1 ≠ 37 → EV Γ MX1_apply d 79 [some (.ref v0), some (.int v1), some (.ref v2), some (.ref r10)] [] σ9 Q) ∧ (v1 = 37 → EV Γ MX1_apply d 70 [some (.ref v0), some (.int v1), some (.ref v2), some (.ref r10)] [] σ9 Q))))) (fun E σ9 => Q (.inr E) σ9)) ∧ (v1 = 7 → EV Γ MX1_apply d 22 [some (.ref v0), some (.int v1), some (.ref v2), none] [] σ Q))))))))) : RUN Γ d MX1_apply [.ref v0, .int v1, .ref v2] σ Q :=
  EV.enter [some (.ref v0), some (.int v1), some (.ref v2), none] rfl (by decide +kernel) (Nat.le_of_ble_eq_true rfl) rfl (gX1_apply_0 h)
theorem gX1_apply_22 {Γ : Gm} {d : Nat} {σ : AH} {Q : Oc → AH → Prop} {v0 : Nat} {v1 : Int32} {v2 : Nat} (h : hs σ v0 = some (1, 2) ∧ CR Γ d MX1_row [.ref v0, .int ((gi σ v0 1) - 1)] σ (fun r3 σ2 => hs σ2 v2 = some (0, 4) ∧ CV Γ d MX0_applyToOne [.ref v2, .int v1, .ref r3] σ2 (fun σ4 => Q (.inl (some (.int 1))) σ4) (fun E σ4 => Q (.inr E) σ4)) (fun E σ2 => Q (.inr E) σ2)) : EV Γ MX1_apply d 22 [some (.ref v0), some (.int v1), some (.ref v2), none] [] σ Q := by
  refine EV.aload_n 23 rfl 2 rfl rfl dX1_apply_22 ?_
  refine EV.iload_n 24 rfl 1 rfl rfl dX1_apply_23 ?_
  refine EV.aload_n 25 rfl 0 rfl rfl dX1_apply_24 ?_
  refine EV.aload_n 26 rfl 0 rfl rfl dX1_apply_25 ?_
  obtain ⟨w1, h⟩ := h
  refine EV.getI 29 rfl fl_X1_17 rfl dX1_apply_26 w1 ?_
  refine EV.iconst 30 rfl dX1_apply_29 (v := 1) (by decide) ?_
  refine EV.isub 31 rfl dX1_apply_30 ?_
  refine EV.cV rfl rfl lk_X1_57 rfl (vs := [.int ((gi σ v0 1) - 1)]) (st := [.int v1, .ref v2]) rfl rfl (Nat.le_of_ble_eq_true rfl) dX1_apply_31 w1 h (fun v σ2 h => ?_)
  obtain ⟨r3, rfl, h⟩ := h
  show EV Γ MX1_apply d 34 [some (.ref v0), some (.int v1), some (.ref v2), none] [.ref r3, .int v1, .ref v2] σ2 Q
  obtain ⟨w6, h⟩ := h
  refine EV.cV rfl rfl lk_X1_61 rfl (vs := [.int v1, .ref r3]) (st := []) rfl rfl (Nat.le_of_ble_eq_true rfl) dX1_apply_34 w6 h (fun v σ4 h => ?_)
  obtain ⟨rfl, h⟩ := h
  show EV Γ MX1_apply d 37 [some (.ref v0), some (.int v1), some (.ref v2), none] [] σ4 Q
  refine EV.iconst 38 rfl dX1_apply_37 (v := 1) (by decide) ?_
  exact EV.zret rfl rfl dX1_apply_38 h
theorem gX1_apply_70 {Γ : Gm} {d : Nat} {σ : AH} {Q : Oc → AH → Prop} {v0 : Nat} {v1 : Int32} {v2 : Nat} {v3 : Nat} (h : CI Γ d MX7_size [.ref v3] σ (fun r2 σ1 => ((r2 ≠ 0 → EV Γ MX1_apply d 79 [some (.ref v0), some (.int v1), some (.ref v2), some (.ref v3)] [] σ1 Q) ∧ (r2 = 0 → Q (.inl (some (.int 0))) σ1))) (fun _ _ => False)) : EV Γ MX1_apply d 70 [some (.ref v0), some (.int v1), some (.ref v2), some (.ref v3)] [] σ Q := by
  refine EV.aload_n 71 rfl 3 rfl rfl dX1_apply_70 ?_
  refine EV.cS rfl lk_X1_67 rfl (vs := [.ref v3]) (st := []) rfl rfl (Nat.le_of_ble_eq_true rfl) dX1_apply_71 h (fun v σ1 h => ?_)
  obtain ⟨r2, rfl, h⟩ := h
  show EV Γ MX1_apply d 74 [some (.ref v0), some (.int v1), some (.ref v2), some (.ref v3)] [.int r2] σ1 Q
  refine EV.if_ne 77 79 rfl (by decide) dX1_apply_74 (fun c3 => ?_) (fun c3 => ?_)
  · have h := h.1 c3
    exact h
  · have h := h.2 c3
    refine EV.iconst 78 rfl dX1_apply_77 (v := 0) (by decide) ?_
    exact EV.zret rfl rfl dX1_apply_78 h
theorem gX1_apply_79 {Γ : Gm} {d : Nat} {σ : AH} {Q : Oc → AH → Prop} {v0 : Nat} {v1 : Int32} {v2 : Nat} {v3 : Nat} (h : hs σ v0 = some (1, 2) ∧ CR Γ d MX1_row [.ref v0, .int ((gi σ v0 1) - 1)] σ (fun r3 σ2 => hs σ2 v2 = some (0, 4) ∧ CV Γ d MX0_applyToTwo [.ref v2, .int v1, .ref r3, .ref v3] σ2 (fun σ4 => Q (.inl (some (.int 1))) σ4) (fun E σ4 => Q (.inr E) σ4)) (fun E σ2 => Q (.inr E) σ2)) : EV Γ MX1_apply d 79 [some (.ref v0), some (.int v1), some (.ref v2), some (.ref v3)] [] σ Q := by
  refine EV.aload_n 80 rfl 2 rfl rfl dX1_apply_79 ?_
  refine EV.iload_n 81 rfl 1 rfl rfl dX1_apply_80 ?_
  refine EV.aload_n 82 rfl 0 rfl rfl dX1_apply_81 ?_
  refine EV.aload_n 83 rfl 0 rfl rfl dX1_apply_82 ?_
  obtain ⟨w1, h⟩ := h
  refine EV.getI 86 rfl fl_X1_17 rfl dX1_apply_83 w1 ?_
  refine EV.iconst 87 rfl dX1_apply_86 (v := 1) (by decide) ?_
  refine EV.isub 88 rfl dX1_apply_87 ?_
  refine EV.cV rfl rfl lk_X1_57 rfl (vs := [.int ((gi σ v0 1) - 1)]) (st := [.int v1, .ref v2]) rfl rfl (Nat.le_of_ble_eq_true rfl) dX1_apply_88 w1 h (fun v σ2 h => ?_)
  obtain ⟨r3, rfl, h⟩ := h
  show EV Γ MX1_apply d 91 [some (.ref v0), some (.int v1), some (.ref v2), some (.ref v3)] [.ref r3, .int v1, .ref v2] σ2 Q
  refine EV.aload_n 92 rfl 3 rfl rfl dX1_apply_91 ?_
  obtain ⟨w6, h⟩ := h
  refine EV.cV rfl rfl lk_X1_71 rfl (vs := [.int v1, .ref r3, .ref v3]) (st := []) rfl rfl (Nat.le_of_ble_eq_true rfl) dX1_apply_92 w6 h (fun v σ4 h => ?_)
  obtain ⟨rfl, h⟩ := h
  show EV Γ MX1_apply d 95 [some (.ref v0), some (.int v1), some (.ref v2), some (.ref v3)] [] σ4 Q
  refine EV.iconst 96 rfl dX1_apply_95 (v := 1) (by decide) ?_
  exact EV.zret rfl rfl dX1_apply_96 h
theorem gX1_push_0 {Γ : Gm} {d : Nat} {σ : AH} {Q : Oc → AH → Prop} {v0 : Nat} (h : hs σ v0 = some (1, 2) ∧ CR Γ d MX1_row [.ref v0, .int (gi σ v0 1)] σ (fun r3 σ2 => CV Γ d MJ7_fill_d0a16 [.ref r3, .long 0] σ2 (fun σ4 => hs σ4 v0 = some (1, 2) ∧ ∀ σ7 : AH, σ7 = setI σ4 v0 1 ((gi σ4 v0 1) + 1) → Q (.inl (some (.ref r3))) σ7) (fun _ _ => False)) (fun E σ2 => Q (.inr E) σ2)) : EV Γ MX1_push d 0 [some (.ref v0), none] [] σ Q := by
  refine EV.aload_n 1 rfl 0 rfl rfl dX1_push_0 ?_
  refine EV.aload_n 2 rfl 0 rfl rfl dX1_push_1 ?_
  obtain ⟨w1, h⟩ := h
  refine EV.getI 5 rfl fl_X1_17 rfl dX1_push_2 w1 ?_
  refine EV.cV rfl rfl lk_X1_57 rfl (vs := [.int (gi σ v0 1)]) (st := []) rfl rfl (Nat.le_of_ble_eq_true rfl) dX1_push_5 w1 h (fun v σ2 h => ?_)
  obtain ⟨r3, rfl, h⟩ := h
  show EV Γ MX1_push d 8 [some (.ref v0), none] [.ref r3] σ2 Q
  refine EV.astore_n 9 rfl 1 [some (.ref v0), some (.ref r3)] rfl (by decide) rfl dX1_push_8 ?_
  refine EV.aload_n 10 rfl 1 rfl rfl dX1_push_9 ?_
  refine EV.lconst 11 rfl dX1_push_10 (v := 0) (by decide) ?_
  refine EV.cS rfl lk_X1_75 rfl (vs := [.ref r3, .long 0]) (st := []) rfl rfl (Nat.le_of_ble_eq_true rfl) dX1_push_11 h (fun v σ4 h => ?_)
  obtain ⟨rfl, h⟩ := h
  show EV Γ MX1_push d 14 [some (.ref v0), some (.ref r3)] [] σ4 Q
  refine EV.aload_n 15 rfl 0 rfl rfl dX1_push_14 ?_
  refine EV.dup 16 rfl dX1_push_15 rfl ?_
  obtain ⟨w6, h⟩ := h
  refine EV.getI 19 rfl fl_X1_17 rfl dX1_push_16 w6 ?_
  refine EV.iconst 20 rfl dX1_push_19 (v := 1) (by decide) ?_
  refine EV.iadd 21 rfl dX1_push_20 ?_
  refine EV.putI 24 rfl fw_X1_17 rfl (by decide) dX1_push_21 w6 (EV.nm (fun σ7 e8 => ?_))
  have h := h σ7 e8
  have w9 := tr_hs (hs_setI_of e8) w6
  refine EV.aload_n 25 rfl 1 rfl rfl dX1_push_24 ?_
  exact EV.aret rfl (Or.inr ⟨_, rfl⟩) dX1_push_25 h
theorem eX1_push {Γ : Gm} {d : Nat} {σ : AH} {Q : Oc → AH → Prop} {v0 : Nat} (h : hs σ v0 = some (1, 2) ∧ CR Γ d MX1_row [.ref v0, .int (gi σ v0 1)] σ (fun r3 σ2 => CV Γ d MJ7_fill_d0a16 [.ref r3, .long 0] σ2 (fun σ4 => hs σ4 v0 = some (1, 2) ∧ ∀ σ7 : AH, σ7 = setI σ4 v0 1 ((gi σ4 v0 1) + 1) → Q (.inl (some (.ref r3))) σ7) (fun _ _ => False)) (fun E σ2 => Q (.inr E) σ2)) : RUN Γ d MX1_push [.ref v0] σ Q :=
  EV.enter [some (.ref v0), none] rfl (by decide +kernel) (Nat.le_of_ble_eq_true rfl) rfl (gX1_push_0 h)
theorem gX1_pushFamily_0 {Γ : Gm} {d : Nat} {σ : AH} {Q : Oc → AH → Prop} {v0 : Nat} {v1 : Nat} {v2 : Int32} (h : hs σ v0 = some (1, 2) ∧ CR Γ d MX1_push [.ref v0] σ (fun r2 σ1 => ((v2 < 0 → Q (.inl none) σ1) ∧ (¬ v2 < 0 → ∃ n6 : Nat, hs σ1 v1 = some (25, n6) ∧ (((nI n6) ≤ v2 → Q (.inl none) σ1) ∧ (¬ (nI n6) ≤ v2 → ∃ j8 : Nat, IX v2 n6 j8 ∧ ((gr σ1 v1 j8 = none → Q (.inl none) σ1) ∧ (∀ t10 : Nat, gr σ1 v1 j8 = some t10 → hs σ1 t10 = some (4, 3) ∧ ∃ t13 : Nat, gr σ1 t10 0 = some t13 ∧ CV Γ d MX7_copy [.ref t13, .ref r2] σ1 (fun σ15 => Q (.inl none) σ15) (fun _ _ => False)))))))) (fun E σ1 => Q (.inr E) σ1)) : EV Γ MX1_pushFamily d 0 [some (.ref v0), some (.ref v1), some (.int v2), none] [] σ Q := by
  refine EV.aload_n 1 rfl 0 rfl rfl dX1_pushFamily_0 ?_
  obtain ⟨w3, h⟩ := h
  refine EV.cV rfl rfl lk_X1_39 rfl (vs := []) (st := []) rfl rfl (Nat.le_of_ble_eq_true rfl) dX1_pushFamily_1 w3 h (fun v σ1 h => ?_)
  obtain ⟨r2, rfl, h⟩ := h
  show EV Γ MX1_pushFamily d 4 [some (.ref v0), some (.ref v1), some (.int v2), none] [.ref r2] σ1 Q
  refine EV.astore_n 5 rfl 3 [some (.ref v0), some (.ref v1), some (.int v2), some (.ref r2)] rfl (by decide) rfl dX1_pushFamily_4 ?_
  refine EV.iload_n 6 rfl 2 rfl rfl dX1_pushFamily_5 ?_
  refine EV.if_lt 9 31 rfl (by decide) dX1_pushFamily_6 (fun c4 => ?_) (fun c4 => ?_)
  · have h := h.1 c4
    exact EV.vret rfl dX1_pushFamily_31 h
  · have h := h.2 c4
    refine EV.iload_n 10 rfl 2 rfl rfl dX1_pushFamily_9 ?_
    refine EV.aload_n 11 rfl 1 rfl rfl dX1_pushFamily_10 ?_
    obtain ⟨n6, w5, h⟩ := h
    refine EV.alenF 12 rfl dX1_pushFamily_11 w5 ?_
    refine EV.icmp_ge 15 31 rfl (by decide) dX1_pushFamily_12 (fun c7 => ?_) (fun c7 => ?_)
    · have h := h.1 c7
      exact EV.vret rfl dX1_pushFamily_31 h
    · have h := h.2 c7
      refine EV.aload_n 16 rfl 1 rfl rfl dX1_pushFamily_15 ?_
      refine EV.iload_n 17 rfl 2 rfl rfl dX1_pushFamily_16 ?_
      obtain ⟨j8, x9, h⟩ := h
      refine EV.aaldF 18 rfl dX1_pushFamily_17 w5 x9 ?_
      rcases g11 : gr σ1 v1 j8 with _ | t10
      · have h := h.1 g11
        show EV Γ MX1_pushFamily d 18 [some (.ref v0), some (.ref v1), some (.int v2), some (.ref r2)] [.null] σ1 Q
        refine EV.ifnull 21 31 rfl (r := none) (by decide) dX1_pushFamily_18 (fun _ => ?_) (fun _ hh => by cases hh)
        exact EV.vret rfl dX1_pushFamily_31 h
      · have h := h.2 t10 g11
        show EV Γ MX1_pushFamily d 18 [some (.ref v0), some (.ref v1), some (.int v2), some (.ref r2)] [.ref t10] σ1 Q
        refine EV.ifnull 21 31 rfl (r := some t10) (by decide) dX1_pushFamily_18 (fun hh => by cases hh) (fun _ _ => ?_)
        refine EV.aload_n 22 rfl 1 rfl rfl dX1_pushFamily_21 ?_
        refine EV.iload_n 23 rfl 2 rfl rfl dX1_pushFamily_22 ?_
        refine EV.aaldF 24 rfl dX1_pushFamily_23 w5 x9 ?_
        rw [g11]
        show EV Γ MX1_pushFamily d 24 [some (.ref v0), some (.ref v1), some (.int v2), some (.ref r2)] [.ref t10] σ1 Q
        obtain ⟨w12, h⟩ := h
        obtain ⟨t13, g14, h⟩ := h
        refine EV.getR 27 rfl fl_X1_81 rfl dX1_pushFamily_24 w12 g14 ?_
        refine EV.aload_n 28 rfl 3 rfl rfl dX1_pushFamily_27 ?_
        refine EV.cS rfl lk_X1_85 rfl (vs := [.ref t13, .ref r2]) (st := []) rfl rfl (Nat.le_of_ble_eq_true rfl) dX1_pushFamily_28 h (fun v σ15 h => ?_)
        obtain ⟨rfl, h⟩ := h
        show EV Γ MX1_pushFamily d 31 [some (.ref v0), some (.ref v1), some (.int v2), some (.ref r2)] [] σ15 Q
        exact EV.vret rfl dX1_pushFamily_31 h
theorem eX1_pushFamily {Γ : Gm} {d : Nat} {σ : AH} {Q : Oc → AH → Prop} {v0 : Nat} {v1 : Nat} {v2 : Int32} (h : hs σ v0 = some (1, 2) ∧ CR Γ d MX1_push [.ref v0] σ (fun r2 σ1 => ((v2 < 0 → Q (.inl none) σ1) ∧ (¬ v2 < 0 → ∃ n6 : Nat, hs σ1 v1 = some (25, n6) ∧ (((nI n6) ≤ v2 → Q (.inl none) σ1) ∧ (¬ (nI n6) ≤ v2 → ∃ j8 : Nat, IX v2 n6 j8 ∧ ((gr σ1 v1 j8 = none → Q (.inl none) σ1) ∧ (∀ t10 : Nat, gr σ1 v1 j8 = some t10 → hs σ1 t10 = some (4, 3) ∧ ∃ t13 : Nat, gr σ1 t10 0 = some t13 ∧ CV Γ d MX7_copy [.ref t13, .ref r2] σ1 (fun σ15 => Q (.inl none) σ15) (fun _ _ => False)))))))) (fun E σ1 => Q (.inr E) σ1)) : RUN Γ d MX1_pushFamily [.ref v0, .ref v1, .int v2] σ Q :=
  EV.enter [some (.ref v0), some (.ref v1), some (.int v2), none] rfl (by decide +kernel) (Nat.le_of_ble_eq_true rfl) rfl (gX1_pushFamily_0 h)
theorem gX1_row_0 {Γ : Gm} {d : Nat} {σ : AH} {Q : Oc → AH → Prop} {v0 : Nat} {v1 : Int32} (h : 1 ≤ d ∧ 1 ≤ d ∧ hs σ v0 = some (1, 2) ∧ ∃ t4 : Nat, gr σ v0 0 = some t4 ∧ ∃ n7 : Nat, hs σ t4 = some (26, n7) ∧ ∃ j8 : Nat, IX (if 0 < (if 42 < v1 then 42 else v1) then (if 42 < v1 then 42 else v1) else 0) n7 j8 ∧ ((gr σ t4 j8 = none → ∀ (q12 : Nat) (σ13 : AH), q12 = lo Γ + hc σ → σ13 = mk σ q12 23 64 → ∃ n16 : Nat, hs σ13 t4 = some (26, n16) ∧ ∃ j17 : Nat, IX (if 0 < (if 42 < v1 then 42 else v1) then (if 42 < v1 then 42 else v1) else 0) n16 j17 ∧ ∀ σ19 : AH, σ19 = setR σ13 t4 j17 (some q12) → hs σ19 v0 = some (1, 2) ∧ ∃ t24 : Nat, gr σ19 v0 0 = some t24 ∧ ∃ n27 : Nat, hs σ19 t24 = some (26, n27) ∧ ∃ j28 : Nat, IX (if 0 < (if 42 < v1 then 42 else v1) then (if 42 < v1 then 42 else v1) else 0) n27 j28 ∧ ((gr σ19 t24 j28 = none → Q (.inl (some .null)) σ19) ∧ (∀ t30 : Nat, gr σ19 t24 j28 = some t30 → Q (.inl (some (.ref t30))) σ19))) ∧ (∀ t10 : Nat, gr σ t4 j8 = some t10 → Q (.inl (some (.ref t10))) σ))) : EV Γ MX1_row d 0 [some (.ref v0), some (.int v1), none] [] σ Q := by
  refine EV.iconst 1 rfl dX1_row_0 (v := 0) (by decide) ?_
  refine EV.iload_n 2 rfl 1 rfl rfl dX1_row_1 ?_
  refine EV.bipush 4 rfl dX1_row_2 (v := 42) (by decide) ?_
  obtain ⟨z1, h⟩ := h
  refine EV.mmin 7 rfl mm_X1_26 z1 (Nat.le_of_ble_eq_true rfl) dX1_row_4 ?_
  obtain ⟨z2, h⟩ := h
  refine EV.mmax 10 rfl mm_X1_89 z2 (Nat.le_of_ble_eq_true rfl) dX1_row_7 ?_
  refine EV.istore_n 11 rfl 2 [some (.ref v0), some (.int v1), some (.int (if 0 < (if 42 < v1 then 42 else v1) then (if 42 < v1 then 42 else v1) else 0))] rfl (by decide) rfl dX1_row_10 ?_
  refine EV.aload_n 12 rfl 0 rfl rfl dX1_row_11 ?_
  obtain ⟨w3, h⟩ := h
  obtain ⟨t4, g5, h⟩ := h
  refine EV.getR 15 rfl fl_X1_13 rfl dX1_row_12 w3 g5 ?_
  refine EV.iload_n 16 rfl 2 rfl rfl dX1_row_15 ?_
  obtain ⟨n7, w6, h⟩ := h
  obtain ⟨j8, x9, h⟩ := h
  refine EV.aaldJ 17 rfl dX1_row_16 w6 x9 ?_
  rcases g11 : gr σ t4 j8 with _ | t10
  · have h := h.1 g11
    show EV Γ MX1_row d 17 [some (.ref v0), some (.int v1), some (.int (if 0 < (if 42 < v1 then 42 else v1) then (if 42 < v1 then 42 else v1) else 0))] [.null] σ Q
    refine EV.ifnonnull 20 30 rfl (r := none) (by decide) dX1_row_17 (fun _ hh => by cases hh) (fun _ => ?_)
    refine EV.aload_n 21 rfl 0 rfl rfl dX1_row_20 ?_
    refine EV.getR 24 rfl fl_X1_13 rfl dX1_row_21 w3 g5 ?_
    refine EV.iload_n 25 rfl 2 rfl rfl dX1_row_24 ?_
    refine EV.bipush 27 rfl dX1_row_25 (v := 64) (by decide) ?_
    refine EV.newJ 29 rfl (n := 64) ac_long dX1_row_27 (by decide) (Nat.le_of_ble_eq_true rfl) (EV.nq (fun q12 σ13 eq12 eσ13 => ?_))
    have h := h q12 σ13 eq12 eσ13
    have w14 : hs σ13 q12 = some (23, 64) := by rw [eσ13]; exact up_same _ _ _
    obtain ⟨n16, w15, h⟩ := h
    obtain ⟨j17, x18, h⟩ := h
    refine EV.aastJ 30 rfl dX1_row_29 w15 x18 w14 (EV.nm (fun σ19 e20 => ?_))
    have h := h σ19 e20
    have w21 := tr_hs (hs_setR_of e20) w14
    have w22 := tr_hs (hs_setR_of e20) w15
    refine EV.aload_n 31 rfl 0 rfl rfl dX1_row_30 ?_
    obtain ⟨w23, h⟩ := h
    obtain ⟨t24, g25, h⟩ := h
    refine EV.getR 34 rfl fl_X1_13 rfl dX1_row_31 w23 g25 ?_
    refine EV.iload_n 35 rfl 2 rfl rfl dX1_row_34 ?_
    obtain ⟨n27, w26, h⟩ := h
    obtain ⟨j28, x29, h⟩ := h
    refine EV.aaldJ 36 rfl dX1_row_35 w26 x29 ?_
    rcases g31 : gr σ19 t24 j28 with _ | t30
    · have h := h.1 g31
      show EV Γ MX1_row d 36 [some (.ref v0), some (.int v1), some (.int (if 0 < (if 42 < v1 then 42 else v1) then (if 42 < v1 then 42 else v1) else 0))] [.null] σ19 Q
      exact EV.aretN rfl (Or.inr ⟨_, rfl⟩) dX1_row_36 h
    · have h := h.2 t30 g31
      show EV Γ MX1_row d 36 [some (.ref v0), some (.int v1), some (.int (if 0 < (if 42 < v1 then 42 else v1) then (if 42 < v1 then 42 else v1) else 0))] [.ref t30] σ19 Q
      exact EV.aret rfl (Or.inr ⟨_, rfl⟩) dX1_row_36 h
  · have h := h.2 t10 g11
    show EV Γ MX1_row d 17 [some (.ref v0), some (.int v1), some (.int (if 0 < (if 42 < v1 then 42 else v1) then (if 42 < v1 then 42 else v1) else 0))] [.ref t10] σ Q
    refine EV.ifnonnull 20 30 rfl (r := some t10) (by decide) dX1_row_17 (fun _ _ => ?_) (fun hh => by cases hh)
    refine EV.aload_n 31 rfl 0 rfl rfl dX1_row_30 ?_
    refine EV.getR 34 rfl fl_X1_13 rfl dX1_row_31 w3 g5 ?_
    refine EV.iload_n 35 rfl 2 rfl rfl dX1_row_34 ?_
    refine EV.aaldJ 36 rfl dX1_row_35 w6 x9 ?_
    rw [g11]
    show EV Γ MX1_row d 36 [some (.ref v0), some (.int v1), some (.int (if 0 < (if 42 < v1 then 42 else v1) then (if 42 < v1 then 42 else v1) else 0))] [.ref t10] σ Q
    exact EV.aret rfl (Or.inr ⟨_, rfl⟩) dX1_row_36 h
theorem eX1_row {Γ : Gm} {d : Nat} {σ : AH} {Q : Oc → AH → Prop} {v0 : Nat} {v1 : Int32} (h : 1 ≤ d ∧ 1 ≤ d ∧ hs σ v0 = some (1, 2) ∧ ∃ t4 : Nat, gr σ v0 0 = some t4 ∧ ∃ n7 : Nat, hs σ t4 = some (26, n7) ∧ ∃ j8 : Nat, IX (if 0 < (if 42 < v1 then 42 else v1) then (if 42 < v1 then 42 else v1) else 0) n7 j8 ∧ ((gr σ t4 j8 = none → ∀ (q12 : Nat) (σ13 : AH), q12 = lo Γ + hc σ → σ13 = mk σ q12 23 64 → ∃ n16 : Nat, hs σ13 t4 = some (26, n16) ∧ ∃ j17 : Nat, IX (if 0 < (if 42 < v1 then 42 else v1) then (if 42 < v1 then 42 else v1) else 0) n16 j17 ∧ ∀ σ19 : AH, σ19 = setR σ13 t4 j17 (some q12) → hs σ19 v0 = some (1, 2) ∧ ∃ t24 : Nat, gr σ19 v0 0 = some t24 ∧ ∃ n27 : Nat, hs σ19 t24 = some (26, n27) ∧ ∃ j28 : Nat, IX (if 0 < (if 42 < v1 then 42 else v1) then (if 42 < v1 then 42 else v1) else 0) n27 j28 ∧ ((gr σ19 t24 j28 = none → Q (.inl (some .null)) σ19) ∧ (∀ t30 : Nat, gr σ19 t24 j28 = some t30 → Q (.inl (some (.ref t30))) σ19))) ∧ (∀ t10 : Nat, gr σ t4 j8 = some t10 → Q (.inl (some (.ref t10))) σ))) : RUN Γ d MX1_row [.ref v0, .int v1] σ Q :=
  EV.enter [some (.ref v0), some (.int v1), none] rfl (by decide +kernel) (Nat.le_of_ble_eq_true rfl) rfl (gX1_row_0 h)
