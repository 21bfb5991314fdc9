theorem gX9_init_0 {Γ : Gm} {d : Nat} {σ : AH} {Q : Oc → AH → Prop} {v0 : Nat} (h : 1 ≤ d ∧ ∀ (q2 : Nat) (σ3 : AH), q2 = lo Γ + hc σ → σ3 = mk σ q2 20 200 → hs σ3 v0 = some (7, 27) ∧ ∀ σ6 : AH, σ6 = setR σ3 v0 1 (some q2) → ∀ (q10 : Nat) (σ11 : AH), q10 = lo Γ + hc σ6 → σ11 = mk σ6 q10 20 1000 → hs σ11 v0 = some (7, 27) ∧ ∀ σ14 : AH, σ14 = setR σ11 v0 3 (some q10) → ∀ σ18 : AH, σ18 = setI σ14 v0 5 (-1) → ∀ (q22 : Nat) (σ23 : AH), q22 = lo Γ + hc σ18 → σ23 = mk σ18 q22 21 200 → hs σ23 v0 = some (7, 27) ∧ ∀ σ26 : AH, σ26 = setR σ23 v0 8 (some q22) → ∀ (q30 : Nat) (σ31 : AH), q30 = lo Γ + hc σ26 → σ31 = mk σ26 q30 23 12800 → hs σ31 v0 = some (7, 27) ∧ ∀ σ34 : AH, σ34 = setR σ31 v0 9 (some q30) → ∀ (q38 : Nat) (σ39 : AH), q38 = lo Γ + hc σ34 → σ39 = mk σ34 q38 22 12 → hs σ39 v0 = some (7, 27) ∧ ∀ σ42 : AH, σ42 = setR σ39 v0 10 (some q38) → ∀ (q46 : Nat) (σ47 : AH), q46 = lo Γ + hc σ42 → σ47 = mk σ42 q46 22 300 → hs σ47 v0 = some (7, 27) ∧ ∀ σ50 : AH, σ50 = setR σ47 v0 11 (some q46) → ∀ (q54 : Nat) (σ55 : AH), q54 = lo Γ + hc σ50 → σ55 = mk σ50 q54 23 4096 → hs σ55 v0 = some (7, 27) ∧ ∀ σ58 : AH, σ58 = setR σ55 v0 13 (some q54) → ∀ (q62 : Nat) (σ63 : AH), q62 = lo Γ + hc σ58 → σ63 = mk σ58 q62 23 4096 → hs σ63 v0 = some (7, 27) ∧ ∀ σ66 : AH, σ66 = setR σ63 v0 14 (some q62) → ∀ (q70 : Nat) (σ71 : AH), q70 = lo Γ + hc σ66 → σ71 = mk σ66 q70 23 7040 → hs σ71 v0 = some (7, 27) ∧ ∀ σ74 : AH, σ74 = setR σ71 v0 15 (some q70) → ∀ (q78 : Nat) (σ79 : AH), q78 = lo Γ + hc σ74 → σ79 = mk σ74 q78 22 64 → hs σ79 v0 = some (7, 27) ∧ ∀ σ82 : AH, σ82 = setR σ79 v0 16 (some q78) → ∀ (q86 : Nat) (σ87 : AH), q86 = lo Γ + hc σ82 → σ87 = mk σ82 q86 22 64 → hs σ87 v0 = some (7, 27) ∧ ∀ σ90 : AH, σ90 = setR σ87 v0 17 (some q86) → ∀ (q94 : Nat) (σ95 : AH), q94 = lo Γ + hc σ90 → σ95 = mk σ90 q94 22 64 → hs σ95 v0 = some (7, 27) ∧ ∀ σ98 : AH, σ98 = setR σ95 v0 18 (some q94) → ∀ (q102 : Nat) (σ103 : AH), q102 = lo Γ + hc σ98 → σ103 = mk σ98 q102 22 256 → hs σ103 v0 = some (7, 27) ∧ ∀ σ106 : AH, σ106 = setR σ103 v0 19 (some q102) → ∀ (q110 : Nat) (σ111 : AH), q110 = lo Γ + hc σ106 → σ111 = mk σ106 q110 22 4096 → hs σ111 v0 = some (7, 27) ∧ ∀ σ114 : AH, σ114 = setR σ111 v0 21 (some q110) → ∀ (q118 : Nat) (σ119 : AH), q118 = lo Γ + hc σ114 → σ119 = mk σ114 q118 22 200 → hs σ119 v0 = some (7, 27) ∧ ∀ σ122 : AH, σ122 = setR σ119 v0 22 (some q118) → Q (.inl none) σ122) : EV Γ MX9_init d 0 [some (.ref v0)] [] σ Q := by
  refine EV.aload_n 1 rfl 0 rfl rfl dX9_init_0 ?_
  obtain ⟨z1, h⟩ := h
  refine EV.objInit 4 rfl oi_X9_1 z1 (Nat.le_of_ble_eq_true rfl) dX9_init_1 ?_
  refine EV.aload_n 5 rfl 0 rfl rfl dX9_init_4 ?_
  refine EV.sipush 8 rfl dX9_init_5 (v := 200) (by decide) ?_
  refine EV.newB 10 rfl (n := 200) ac_byte dX9_init_8 (by decide) (Nat.le_of_ble_eq_true rfl) (EV.nq (fun q2 σ3 eq2 eσ3 => ?_))
  have h := h q2 σ3 eq2 eσ3
  have w4 : hs σ3 q2 = some (20, 200) := by rw [eσ3]; exact up_same _ _ _
  obtain ⟨w5, h⟩ := h
  refine EV.putFR 13 rfl rfl ff_X9_9 rfl (by decide) dX9_init_10 w5 (EV.nm (fun σ6 e7 => ?_))
  have h := h σ6 e7
  have w8 := tr_hs (hs_setR_of e7) w4
  have w9 := tr_hs (hs_setR_of e7) w5
  refine EV.aload_n 14 rfl 0 rfl rfl dX9_init_13 ?_
  refine EV.sipush 17 rfl dX9_init_14 (v := 1000) (by decide) ?_
  refine EV.newB 19 rfl (n := 1000) ac_byte dX9_init_17 (by decide) (Nat.le_of_ble_eq_true rfl) (EV.nq (fun q10 σ11 eq10 eσ11 => ?_))
  have h := h q10 σ11 eq10 eσ11
  have w12 : hs σ11 q10 = some (20, 1000) := by rw [eσ11]; exact up_same _ _ _
  obtain ⟨w13, h⟩ := h
  refine EV.putFR 22 rfl rfl ff_X9_13 rfl (by decide) dX9_init_19 w13 (EV.nm (fun σ14 e15 => ?_))
  have h := h σ14 e15
  have w16 := tr_hs (hs_setR_of e15) w12
  have w17 := tr_hs (hs_setR_of e15) w13
  refine EV.aload_n 23 rfl 0 rfl rfl dX9_init_22 ?_
  refine EV.iconst 24 rfl dX9_init_23 (v := (-1)) (by decide) ?_
  refine EV.putI 27 rfl fw_X9_16 rfl (by decide) dX9_init_24 w17 (EV.nm (fun σ18 e19 => ?_))
  have h := h σ18 e19
  have w20 := tr_hs (hs_setI_of e19) w16
  have w21 := tr_hs (hs_setI_of e19) w17
  refine EV.aload_n 28 rfl 0 rfl rfl dX9_init_27 ?_
  refine EV.sipush 31 rfl dX9_init_28 (v := 200) (by decide) ?_
  refine EV.newZ 33 rfl (n := 200) ac_boolean dX9_init_31 (by decide) (Nat.le_of_ble_eq_true rfl) (EV.nq (fun q22 σ23 eq22 eσ23 => ?_))
  have h := h q22 σ23 eq22 eσ23
  have w24 : hs σ23 q22 = some (21, 200) := by rw [eσ23]; exact up_same _ _ _
  obtain ⟨w25, h⟩ := h
  refine EV.putFR 36 rfl rfl ff_X9_20 rfl (by decide) dX9_init_33 w25 (EV.nm (fun σ26 e27 => ?_))
  have h := h σ26 e27
  have w28 := tr_hs (hs_setR_of e27) w24
  have w29 := tr_hs (hs_setR_of e27) w25
  refine EV.aload_n 37 rfl 0 rfl rfl dX9_init_36 ?_
  refine EV.sipush 40 rfl dX9_init_37 (v := 12800) (by decide) ?_
  refine EV.newJ 42 rfl (n := 12800) ac_long dX9_init_40 (by decide) (Nat.le_of_ble_eq_true rfl) (EV.nq (fun q30 σ31 eq30 eσ31 => ?_))
  have h := h q30 σ31 eq30 eσ31
  have w32 : hs σ31 q30 = some (23, 12800) := by rw [eσ31]; exact up_same _ _ _
  obtain ⟨w33, h⟩ := h
  refine EV.putFR 45 rfl rfl ff_X9_24 rfl (by decide) dX9_init_42 w33 (EV.nm (fun σ34 e35 => ?_))
  have h := h σ34 e35
  have w36 := tr_hs (hs_setR_of e35) w32
  have w37 := tr_hs (hs_setR_of e35) w33
  refine EV.aload_n 46 rfl 0 rfl rfl dX9_init_45 ?_
  refine EV.bipush 48 rfl dX9_init_46 (v := 12) (by decide) ?_
  refine EV.newI 50 rfl (n := 12) ac_int dX9_init_48 (by decide) (Nat.le_of_ble_eq_true rfl) (EV.nq (fun q38 σ39 eq38 eσ39 => ?_))
  have h := h q38 σ39 eq38 eσ39
  have w40 : hs σ39 q38 = some (22, 12) := by rw [eσ39]; exact up_same _ _ _
  obtain ⟨w41, h⟩ := h
  refine EV.putFR 53 rfl rfl ff_X9_28 rfl (by decide) dX9_init_50 w41 (EV.nm (fun σ42 e43 => ?_))
  have h := h σ42 e43
  have w44 := tr_hs (hs_setR_of e43) w40
  have w45 := tr_hs (hs_setR_of e43) w41
  refine EV.aload_n 54 rfl 0 rfl rfl dX9_init_53 ?_
  refine EV.sipush 57 rfl dX9_init_54 (v := 300) (by decide) ?_
  refine EV.newI 59 rfl (n := 300) ac_int dX9_init_57 (by decide) (Nat.le_of_ble_eq_true rfl) (EV.nq (fun q46 σ47 eq46 eσ47 => ?_))
  have h := h q46 σ47 eq46 eσ47
  have w48 : hs σ47 q46 = some (22, 300) := by rw [eσ47]; exact up_same _ _ _
  obtain ⟨w49, h⟩ := h
  refine EV.putFR 62 rfl rfl ff_X9_32 rfl (by decide) dX9_init_59 w49 (EV.nm (fun σ50 e51 => ?_))
  have h := h σ50 e51
  have w52 := tr_hs (hs_setR_of e51) w48
  have w53 := tr_hs (hs_setR_of e51) w49
  refine EV.aload_n 63 rfl 0 rfl rfl dX9_init_62 ?_
  refine EV.sipush 66 rfl dX9_init_63 (v := 4096) (by decide) ?_
  refine EV.newJ 68 rfl (n := 4096) ac_long dX9_init_66 (by decide) (Nat.le_of_ble_eq_true rfl) (EV.nq (fun q54 σ55 eq54 eσ55 => ?_))
  have h := h q54 σ55 eq54 eσ55
  have w56 : hs σ55 q54 = some (23, 4096) := by rw [eσ55]; exact up_same _ _ _
  obtain ⟨w57, h⟩ := h
  refine EV.putFR 71 rfl rfl ff_X9_35 rfl (by decide) dX9_init_68 w57 (EV.nm (fun σ58 e59 => ?_))
  have h := h σ58 e59
  have w60 := tr_hs (hs_setR_of e59) w56
  have w61 := tr_hs (hs_setR_of e59) w57
  refine EV.aload_n 72 rfl 0 rfl rfl dX9_init_71 ?_
  refine EV.sipush 75 rfl dX9_init_72 (v := 4096) (by decide) ?_
  refine EV.newJ 77 rfl (n := 4096) ac_long dX9_init_75 (by decide) (Nat.le_of_ble_eq_true rfl) (EV.nq (fun q62 σ63 eq62 eσ63 => ?_))
  have h := h q62 σ63 eq62 eσ63
  have w64 : hs σ63 q62 = some (23, 4096) := by rw [eσ63]; exact up_same _ _ _
  obtain ⟨w65, h⟩ := h
  refine EV.putFR 80 rfl rfl ff_X9_38 rfl (by decide) dX9_init_77 w65 (EV.nm (fun σ66 e67 => ?_))
  have h := h σ66 e67
  have w68 := tr_hs (hs_setR_of e67) w64
  have w69 := tr_hs (hs_setR_of e67) w65
  refine EV.aload_n 81 rfl 0 rfl rfl dX9_init_80 ?_
  refine EV.sipush 84 rfl dX9_init_81 (v := 7040) (by decide) ?_
  refine EV.newJ 86 rfl (n := 7040) ac_long dX9_init_84 (by decide) (Nat.le_of_ble_eq_true rfl) (EV.nq (fun q70 σ71 eq70 eσ71 => ?_))
  have h := h q70 σ71 eq70 eσ71
  have w72 : hs σ71 q70 = some (23, 7040) := by rw [eσ71]; exact up_same _ _ _
  obtain ⟨w73, h⟩ := h
  refine EV.putFR 89 rfl rfl ff_X9_41 rfl (by decide) dX9_init_86 w73 (EV.nm (fun σ74 e75 => ?_))
  have h := h σ74 e75
  have w76 := tr_hs (hs_setR_of e75) w72
  have w77 := tr_hs (hs_setR_of e75) w73
  refine EV.aload_n 90 rfl 0 rfl rfl dX9_init_89 ?_
  refine EV.bipush 92 rfl dX9_init_90 (v := 64) (by decide) ?_
  refine EV.newI 94 rfl (n := 64) ac_int dX9_init_92 (by decide) (Nat.le_of_ble_eq_true rfl) (EV.nq (fun q78 σ79 eq78 eσ79 => ?_))
  have h := h q78 σ79 eq78 eσ79
  have w80 : hs σ79 q78 = some (22, 64) := by rw [eσ79]; exact up_same _ _ _
  obtain ⟨w81, h⟩ := h
  refine EV.putR 97 rfl fw_X9_44 rfl (by decide) dX9_init_94 w81 (EV.nm (fun σ82 e83 => ?_))
  have h := h σ82 e83
  have w84 := tr_hs (hs_setR_of e83) w80
  have w85 := tr_hs (hs_setR_of e83) w81
  refine EV.aload_n 98 rfl 0 rfl rfl dX9_init_97 ?_
  refine EV.bipush 100 rfl dX9_init_98 (v := 64) (by decide) ?_
  refine EV.newI 102 rfl (n := 64) ac_int dX9_init_100 (by decide) (Nat.le_of_ble_eq_true rfl) (EV.nq (fun q86 σ87 eq86 eσ87 => ?_))
  have h := h q86 σ87 eq86 eσ87
  have w88 : hs σ87 q86 = some (22, 64) := by rw [eσ87]; exact up_same _ _ _
  obtain ⟨w89, h⟩ := h
  refine EV.putR 105 rfl fw_X9_47 rfl (by decide) dX9_init_102 w89 (EV.nm (fun σ90 e91 => ?_))
  have h := h σ90 e91
  have w92 := tr_hs (hs_setR_of e91) w88
  have w93 := tr_hs (hs_setR_of e91) w89
  refine EV.aload_n 106 rfl 0 rfl rfl dX9_init_105 ?_
  refine EV.bipush 108 rfl dX9_init_106 (v := 64) (by decide) ?_
  refine EV.newI 110 rfl (n := 64) ac_int dX9_init_108 (by decide) (Nat.le_of_ble_eq_true rfl) (EV.nq (fun q94 σ95 eq94 eσ95 => ?_))
  have h := h q94 σ95 eq94 eσ95
  have w96 : hs σ95 q94 = some (22, 64) := by rw [eσ95]; exact up_same _ _ _
  obtain ⟨w97, h⟩ := h
  refine EV.putR 113 rfl fw_X9_50 rfl (by decide) dX9_init_110 w97 (EV.nm (fun σ98 e99 => ?_))
  have h := h σ98 e99
  have w100 := tr_hs (hs_setR_of e99) w96
  have w101 := tr_hs (hs_setR_of e99) w97
  refine EV.aload_n 114 rfl 0 rfl rfl dX9_init_113 ?_
  refine EV.sipush 117 rfl dX9_init_114 (v := 256) (by decide) ?_
  refine EV.newI 119 rfl (n := 256) ac_int dX9_init_117 (by decide) (Nat.le_of_ble_eq_true rfl) (EV.nq (fun q102 σ103 eq102 eσ103 => ?_))
  have h := h q102 σ103 eq102 eσ103
  have w104 : hs σ103 q102 = some (22, 256) := by rw [eσ103]; exact up_same _ _ _
  obtain ⟨w105, h⟩ := h
  refine EV.putR 122 rfl fw_X9_53 rfl (by decide) dX9_init_119 w105 (EV.nm (fun σ106 e107 => ?_))
  have h := h σ106 e107
  have w108 := tr_hs (hs_setR_of e107) w104
  have w109 := tr_hs (hs_setR_of e107) w105
  refine EV.aload_n 123 rfl 0 rfl rfl dX9_init_122 ?_
  refine EV.sipush 126 rfl dX9_init_123 (v := 4096) (by decide) ?_
  refine EV.newI 128 rfl (n := 4096) ac_int dX9_init_126 (by decide) (Nat.le_of_ble_eq_true rfl) (EV.nq (fun q110 σ111 eq110 eσ111 => ?_))
  have h := h q110 σ111 eq110 eσ111
  have w112 : hs σ111 q110 = some (22, 4096) := by rw [eσ111]; exact up_same _ _ _
  obtain ⟨w113, h⟩ := h
  refine EV.putFR 131 rfl rfl ff_X9_56 rfl (by decide) dX9_init_128 w113 (EV.nm (fun σ114 e115 => ?_))
  have h := h σ114 e115
  have w116 := tr_hs (hs_setR_of e115) w112
  have w117 := tr_hs (hs_setR_of e115) w113
  refine EV.aload_n 132 rfl 0 rfl rfl dX9_init_131 ?_
  refine EV.sipush 135 rfl dX9_init_132 (v := 200) (by decide) ?_
  refine EV.newI 137 rfl (n := 200) ac_int dX9_init_135 (by decide) (Nat.le_of_ble_eq_true rfl) (EV.nq (fun q118 σ119 eq118 eσ119 => ?_))
  have h := h q118 σ119 eq118 eσ119
  have w120 : hs σ119 q118 = some (22, 200) := by rw [eσ119]; exact up_same _ _ _
  obtain ⟨w121, h⟩ := h
  refine EV.putFR 140 rfl rfl ff_X9_59 rfl (by decide) dX9_init_137 w121 (EV.nm (fun σ122 e123 => ?_))
  have h := h σ122 e123
  have w124 := tr_hs (hs_setR_of e123) w120
  have w125 := tr_hs (hs_setR_of e123) w121
  exact EV.vret rfl dX9_init_140 h
theorem eX9_init {Γ : Gm} {d : Nat} {σ : AH} {Q : Oc → AH → Prop} {v0 : Nat} (h : 1 ≤ d ∧ ∀ (q2 : Nat) (σ3 : AH), q2 = lo Γ + hc σ → σ3 = mk σ q2 20 200 → hs σ3 v0 = some (7, 27) ∧ ∀ σ6 : AH, σ6 = setR σ3 v0 1 (some q2) → ∀ (q10 : Nat) (σ11 : AH), q10 = lo Γ + hc σ6 → σ11 = mk σ6 q10 20 1000 → hs σ11 v0 = some (7, 27) ∧ ∀ σ14 : AH, σ14 = setR σ11 v0 3 (some q10) → ∀ σ18 : AH, σ18 = setI σ14 v0 5 (-1) → ∀ (q22 : Nat) (σ23 : AH), q22 = lo Γ + hc σ18 → σ23 = mk σ18 q22 21 200 → hs σ23 v0 = some (7, 27) ∧ ∀ σ26 : AH, σ26 = setR σ23 v0 8 (some q22) → ∀ (q30 : Nat) (σ31 : AH), q30 = lo Γ + hc σ26 → σ31 = mk σ26 q30 23 12800 → hs σ31 v0 = some (7, 27) ∧ ∀ σ34 : AH, σ34 = setR σ31 v0 9 (some q30) → ∀ (q38 : Nat) (σ39 : AH), q38 = lo Γ + hc σ34 → σ39 = mk σ34 q38 22 12 → hs σ39 v0 = some (7, 27) ∧ ∀ σ42 : AH, σ42 = setR σ39 v0 10 (some q38) → ∀ (q46 : Nat) (σ47 : AH), q46 = lo Γ + hc σ42 → σ47 = mk σ42 q46 22 300 → hs σ47 v0 = some (7, 27) ∧ ∀ σ50 : AH, σ50 = setR σ47 v0 11 (some q46) → ∀ (q54 : Nat) (σ55 : AH), q54 = lo Γ + hc σ50 → σ55 = mk σ50 q54 23 4096 → hs σ55 v0 = some (7, 27) ∧ ∀ σ58 : AH, σ58 = setR σ55 v0 13 (some q54) → ∀ (q62 : Nat) (σ63 : AH), q62 = lo Γ + hc σ58 → σ63 = mk σ58 q62 23 4096 → hs σ63 v0 = some (7, 27) ∧ ∀ σ66 : AH, σ66 = setR σ63 v0 14 (some q62) → ∀ (q70 : Nat) (σ71 : AH), q70 = lo Γ + hc σ66 → σ71 = mk σ66 q70 23 7040 → hs σ71 v0 = some (7, 27) ∧ ∀ σ74 : AH, σ74 = setR σ71 v0 15 (some q70) → ∀ (q78 : Nat) (σ79 : AH), q78 = lo Γ + hc σ74 → σ79 = mk σ74 q78 22 64 → hs σ79 v0 = some (7, 27) ∧ ∀ σ82 : AH, σ82 = setR σ79 v0 16 (some q78) → ∀ (q86 : Nat) (σ87 : AH), q86 = lo Γ + hc σ82 → σ87 = mk σ82 q86 22 64 → hs σ87 v0 = some (7, 27) ∧ ∀ σ90 : AH, σ90 = setR σ87 v0 17 (some q86) → ∀ (q94 : Nat) (σ95 : AH), q94 = lo Γ + hc σ90 → σ95 = mk σ90 q94 22 64 → hs σ95 v0 = some (7, 27) ∧ ∀ σ98 : AH, σ98 = setR σ95 v0 18 (some q94) → ∀ (q102 : Nat) (σ103 : AH), q102 = lo Γ + hc σ98 → σ103 = mk σ98 q102 22 256 → hs σ103 v0 = some (7, 27) ∧ ∀ σ106 : AH, σ106 = setR σ103 v0 19 (some q102) → ∀ (q110 : Nat) (σ111 : AH), q110 = lo Γ + hc σ106 → σ111 = mk σ106 q110 22 4096 → hs σ111 v0 = some (7, 27) ∧ ∀ σ114 : AH, σ114 = setR σ111 v0 21 (some q110) → ∀ (q118 : Nat) (σ119 : AH), q118 = lo Γ + hc σ114 → σ119 = mk σ114 q118 22 200 → hs σ119 v0 = some (7, 27) ∧ ∀ σ122 : AH, σ122 = setR σ119 v0 22 (some q118) → Q (.inl none) σ122) : RUN Γ d MX9_init [.ref v0] σ Q :=
  EV.enter [some (.ref v0)] rfl (by decide +kernel) (Nat.le_of_ble_eq_true rfl) rfl (gX9_init_0 h)
theorem gX9_thrown_0 {Γ : Gm} {d : Nat} {σ : AH} {Q : Oc → AH → Prop} {v0 : Nat} (h : hs σ v0 = some (7, 27) ∧ Q (.inl (some (.int (gi σ v0 0)))) σ) : EV Γ MX9_thrown d 0 [some (.ref v0)] [] σ Q := by
  refine EV.aload_n 1 rfl 0 rfl rfl dX9_thrown_0 ?_
  obtain ⟨w1, h⟩ := h
  refine EV.getI 4 rfl fl_X9_62 rfl dX9_thrown_1 w1 ?_
  exact EV.iret rfl dX9_thrown_4 h
theorem eX9_thrown {Γ : Gm} {d : Nat} {σ : AH} {Q : Oc → AH → Prop} {v0 : Nat} (h : hs σ v0 = some (7, 27) ∧ Q (.inl (some (.int (gi σ v0 0)))) σ) : RUN Γ d MX9_thrown [.ref v0] σ Q :=
  EV.enter [some (.ref v0)] rfl (by decide +kernel) (Nat.le_of_ble_eq_true rfl) rfl (gX9_thrown_0 h)
theorem gX9_fail_0 {Γ : Gm} {d : Nat} {σ : AH} {Q : Oc → AH → Prop} {v0 : Nat} {v1 : Int32} (h : hs σ v0 = some (7, 27) ∧ ∀ σ2 : AH, σ2 = setI σ v0 0 v1 → Q (.inl (some (.int 0))) σ2) : EV Γ MX9_fail d 0 [some (.ref v0), some (.int v1)] [] σ Q := by
  refine EV.aload_n 1 rfl 0 rfl rfl dX9_fail_0 ?_
  refine EV.iload_n 2 rfl 1 rfl rfl dX9_fail_1 ?_
  obtain ⟨w1, h⟩ := h
  refine EV.putI 5 rfl fw_X9_62 rfl (by decide) dX9_fail_2 w1 (EV.nm (fun σ2 e3 => ?_))
  have h := h σ2 e3
  have w4 := tr_hs (hs_setI_of e3) w1
  refine EV.iconst 6 rfl dX9_fail_5 (v := 0) (by decide) ?_
  exact EV.iret rfl dX9_fail_6 h
theorem eX9_fail {Γ : Gm} {d : Nat} {σ : AH} {Q : Oc → AH → Prop} {v0 : Nat} {v1 : Int32} (h : hs σ v0 = some (7, 27) ∧ ∀ σ2 : AH, σ2 = setI σ v0 0 v1 → Q (.inl (some (.int 0))) σ2) : RUN Γ d MX9_fail [.ref v0, .int v1] σ Q :=
  EV.enter [some (.ref v0), some (.int v1)] rfl (by decide +kernel) (Nat.le_of_ble_eq_true rfl) rfl (gX9_fail_0 h)
theorem gX9_has_0 {Γ : Gm} {d : Nat} {σ : AH} {Q : Oc → AH → Prop} {v0 : Nat} {v1 : Int32} {v2 : Int32} (h : ∃ n2 : Nat, hs σ v0 = some (23, n2) ∧ ∃ j3 : Nat, IX (((64 : Int32) * v1) + (v2 >>> 6)) n2 j3 ∧ (((lg_cmp (((gj σ v0 j3) >>> (Int32.toInt64 (v2 &&& 63) &&& 63)) &&& 1) 1) ≠ 0 → Q (.inl (some (.int 0))) σ) ∧ ((lg_cmp (((gj σ v0 j3) >>> (Int32.toInt64 (v2 &&& 63) &&& 63)) &&& 1) 1) = 0 → Q (.inl (some (.int 1))) σ))) : EV Γ MX9_has d 0 [some (.ref v0), some (.int v1), some (.int v2)] [] σ Q := by
  refine EV.aload_n 1 rfl 0 rfl rfl dX9_has_0 ?_
  refine EV.bipush 3 rfl dX9_has_1 (v := 64) (by decide) ?_
  refine EV.iload_n 4 rfl 1 rfl rfl dX9_has_3 ?_
  refine EV.imul 5 rfl dX9_has_4 ?_
  refine EV.iload_n 6 rfl 2 rfl rfl dX9_has_5 ?_
  refine EV.bipush 8 rfl dX9_has_6 (v := 6) (by decide) ?_
  refine EV.ishrC 9 rfl (by decide) dX9_has_8 ?_
  refine EV.iadd 10 rfl dX9_has_9 ?_
  obtain ⟨n2, w1, h⟩ := h
  obtain ⟨j3, x4, h⟩ := h
  refine EV.lald 11 rfl dX9_has_10 w1 x4 ?_
  refine EV.iload_n 12 rfl 2 rfl rfl dX9_has_11 ?_
  refine EV.bipush 14 rfl dX9_has_12 (v := 63) (by decide) ?_
  refine EV.iand 15 rfl dX9_has_14 ?_
  refine EV.lshr 16 rfl dX9_has_15 ?_
  refine EV.lconst 17 rfl dX9_has_16 (v := 1) (by decide) ?_
  refine EV.land 18 rfl dX9_has_17 ?_
  refine EV.lconst 19 rfl dX9_has_18 (v := 1) (by decide) ?_
  refine EV.lcmp 20 rfl dX9_has_19 ?_
  refine EV.if_ne 23 27 rfl (by decide) dX9_has_20 (fun c5 => ?_) (fun c5 => ?_)
  · have h := h.1 c5
    refine EV.iconst 28 rfl dX9_has_27 (v := 0) (by decide) ?_
    exact EV.zret rfl rfl dX9_has_28 h
  · have h := h.2 c5
    refine EV.iconst 24 rfl dX9_has_23 (v := 1) (by decide) ?_
    refine EV.goto 28 (by decide) dX9_has_24 ?_
    exact EV.zret rfl rfl dX9_has_28 h
theorem eX9_has {Γ : Gm} {d : Nat} {σ : AH} {Q : Oc → AH → Prop} {v0 : Nat} {v1 : Int32} {v2 : Int32} (h : ∃ n2 : Nat, hs σ v0 = some (23, n2) ∧ ∃ j3 : Nat, IX (((64 : Int32) * v1) + (v2 >>> 6)) n2 j3 ∧ (((lg_cmp (((gj σ v0 j3) >>> (Int32.toInt64 (v2 &&& 63) &&& 63)) &&& 1) 1) ≠ 0 → Q (.inl (some (.int 0))) σ) ∧ ((lg_cmp (((gj σ v0 j3) >>> (Int32.toInt64 (v2 &&& 63) &&& 63)) &&& 1) 1) = 0 → Q (.inl (some (.int 1))) σ))) : RUN Γ d MX9_has [.ref v0, .int v1, .int v2] σ Q :=
  EV.enter [some (.ref v0), some (.int v1), some (.int v2)] rfl (by decide +kernel) (Nat.le_of_ble_eq_true rfl) rfl (gX9_has_0 h)
theorem gX9_put_0 {Γ : Gm} {d : Nat} {σ : AH} {Q : Oc → AH → Prop} {v0 : Nat} {v1 : Int32} {v2 : Int32} (h : ∃ n2 : Nat, hs σ v0 = some (23, n2) ∧ ∃ j3 : Nat, IX (((64 : Int32) * v1) + (v2 >>> 6)) n2 j3 ∧ ∀ σ5 : AH, σ5 = setJ σ v0 j3 ((gj σ v0 j3) ||| ((1 : Int64) <<< (Int32.toInt64 (v2 &&& 63) &&& 63))) → Q (.inl none) σ5) : EV Γ MX9_put d 0 [some (.ref v0), some (.int v1), some (.int v2)] [] σ Q := by
  refine EV.aload_n 1 rfl 0 rfl rfl dX9_put_0 ?_
  refine EV.bipush 3 rfl dX9_put_1 (v := 64) (by decide) ?_
  refine EV.iload_n 4 rfl 1 rfl rfl dX9_put_3 ?_
  refine EV.imul 5 rfl dX9_put_4 ?_
  refine EV.iload_n 6 rfl 2 rfl rfl dX9_put_5 ?_
  refine EV.bipush 8 rfl dX9_put_6 (v := 6) (by decide) ?_
  refine EV.ishrC 9 rfl (by decide) dX9_put_8 ?_
  refine EV.iadd 10 rfl dX9_put_9 ?_
  refine EV.dup2 11 rfl dX9_put_10 rfl rfl ?_
  obtain ⟨n2, w1, h⟩ := h
  obtain ⟨j3, x4, h⟩ := h
  refine EV.lald 12 rfl dX9_put_11 w1 x4 ?_
  refine EV.lconst 13 rfl dX9_put_12 (v := 1) (by decide) ?_
  refine EV.iload_n 14 rfl 2 rfl rfl dX9_put_13 ?_
  refine EV.bipush 16 rfl dX9_put_14 (v := 63) (by decide) ?_
  refine EV.iand 17 rfl dX9_put_16 ?_
  refine EV.lshl 18 rfl dX9_put_17 ?_
  refine EV.lor 19 rfl dX9_put_18 ?_
  refine EV.last 20 rfl dX9_put_19 w1 x4 (EV.nm (fun σ5 e6 => ?_))
  have h := h σ5 e6
  have w7 := tr_hs (hs_setJ_of e6) w1
  exact EV.vret rfl dX9_put_20 h
theorem eX9_put {Γ : Gm} {d : Nat} {σ : AH} {Q : Oc → AH → Prop} {v0 : Nat} {v1 : Int32} {v2 : Int32} (h : ∃ n2 : Nat, hs σ v0 = some (23, n2) ∧ ∃ j3 : Nat, IX (((64 : Int32) * v1) + (v2 >>> 6)) n2 j3 ∧ ∀ σ5 : AH, σ5 = setJ σ v0 j3 ((gj σ v0 j3) ||| ((1 : Int64) <<< (Int32.toInt64 (v2 &&& 63) &&& 63))) → Q (.inl none) σ5) : RUN Γ d MX9_put [.ref v0, .int v1, .int v2] σ Q :=
  EV.enter [some (.ref v0), some (.int v1), some (.int v2)] rfl (by decide +kernel) (Nat.le_of_ble_eq_true rfl) rfl (gX9_put_0 h)
theorem gX9_clear_0 {Γ : Gm} {d : Nat} {σ : AH} {Q : Oc → AH → Prop} {v0 : Nat} {v1 : Int32} (h : EV Γ MX9_clear d 2 [some (.ref v0), some (.int v1), some (.int 0)] [] σ Q) : EV Γ MX9_clear d 0 [some (.ref v0), some (.int v1), none] [] σ Q := by
  refine EV.iconst 1 rfl dX9_clear_0 (v := 0) (by decide) ?_
  refine EV.istore_n 2 rfl 2 [some (.ref v0), some (.int v1), some (.int 0)] rfl (by decide) rfl dX9_clear_1 ?_
  exact h
theorem eX9_clear {Γ : Gm} {d : Nat} {σ : AH} {Q : Oc → AH → Prop} {v0 : Nat} {v1 : Int32} (h : EV Γ MX9_clear d 2 [some (.ref v0), some (.int v1), some (.int 0)] [] σ Q) : RUN Γ d MX9_clear [.ref v0, .int v1] σ Q :=
  EV.enter [some (.ref v0), some (.int v1), none] rfl (by decide +kernel) (Nat.le_of_ble_eq_true rfl) rfl (gX9_clear_0 h)
theorem gX9_clear_2 {Γ : Gm} {d : Nat} {σ : AH} {Q : Oc → AH → Prop} {v0 : Nat} {v1 : Int32} {v2 : Int32} (h : ((64 ≤ v2 → Q (.inl none) σ) ∧ (¬ 64 ≤ v2 → ∃ n3 : Nat, hs σ v0 = some (23, n3) ∧ ∃ j4 : Nat, IX (((64 : Int32) * v1) + v2) n3 j4 ∧ ∀ σ6 : AH, σ6 = setJ σ v0 j4 0 → EV Γ MX9_clear d 2 [some (.ref v0), some (.int v1), some (.int (v2 + 1))] [] σ6 Q))) : EV Γ MX9_clear d 2 [some (.ref v0), some (.int v1), some (.int v2)] [] σ Q := by
  refine EV.iload_n 3 rfl 2 rfl rfl dX9_clear_2 ?_
  refine EV.bipush 5 rfl dX9_clear_3 (v := 64) (by decide) ?_
  refine EV.icmp_ge 8 23 rfl (by decide) dX9_clear_5 (fun c1 => ?_) (fun c1 => ?_)
  · have h := h.1 c1
    exact EV.vret rfl dX9_clear_23 h
  · have h := h.2 c1
    refine EV.aload_n 9 rfl 0 rfl rfl dX9_clear_8 ?_
    refine EV.bipush 11 rfl dX9_clear_9 (v := 64) (by decide) ?_
    refine EV.iload_n 12 rfl 1 rfl rfl dX9_clear_11 ?_
    refine EV.imul 13 rfl dX9_clear_12 ?_
    refine EV.iload_n 14 rfl 2 rfl rfl dX9_clear_13 ?_
    refine EV.iadd 15 rfl dX9_clear_14 ?_
    refine EV.lconst 16 rfl dX9_clear_15 (v := 0) (by decide) ?_
    obtain ⟨n3, w2, h⟩ := h
    obtain ⟨j4, x5, h⟩ := h
    refine EV.last 17 rfl dX9_clear_16 w2 x5 (EV.nm (fun σ6 e7 => ?_))
    have h := h σ6 e7
    have w8 := tr_hs (hs_setJ_of e7) w2
    refine EV.iinc 20 rfl [some (.ref v0), some (.int v1), some (.int (v2 + 1))] (v := 1) (by decide) (by decide) rfl rfl dX9_clear_17 ?_
    refine EV.goto 2 (by decide) dX9_clear_20 ?_
    exact h
theorem gX9_many_0 {Γ : Gm} {d : Nat} {σ : AH} {Q : Oc → AH → Prop} {v0 : Nat} {v1 : Int32} (h : EV Γ MX9_many d 4 [some (.ref v0), some (.int v1), some (.int 0), some (.int 0)] [] σ Q) : EV Γ MX9_many d 0 [some (.ref v0), some (.int v1), none, none] [] σ Q := by
  refine EV.iconst 1 rfl dX9_many_0 (v := 0) (by decide) ?_
  refine EV.istore_n 2 rfl 2 [some (.ref v0), some (.int v1), some (.int 0), none] rfl (by decide) rfl dX9_many_1 ?_
  refine EV.iconst 3 rfl dX9_many_2 (v := 0) (by decide) ?_
  refine EV.istore_n 4 rfl 3 [some (.ref v0), some (.int v1), some (.int 0), some (.int 0)] rfl (by decide) rfl dX9_many_3 ?_
  exact h
theorem eX9_many {Γ : Gm} {d : Nat} {σ : AH} {Q : Oc → AH → Prop} {v0 : Nat} {v1 : Int32} (h : EV Γ MX9_many d 4 [some (.ref v0), some (.int v1), some (.int 0), some (.int 0)] [] σ Q) : RUN Γ d MX9_many [.ref v0, .int v1] σ Q :=
  EV.enter [some (.ref v0), some (.int v1), none, none] rfl (by decide +kernel) (Nat.le_of_ble_eq_true rfl) rfl (gX9_many_0 h)
theorem gX9_many_4 {Γ : Gm} {d : Nat} {σ : AH} {Q : Oc → AH → Prop} {v0 : Nat} {v1 : Int32} {v2 : Int32} {v3 : Int32} (h : ((4096 ≤ v3 → Q (.inl (some (.int v2))) σ) ∧ (¬ 4096 ≤ v3 → CI Γ d MX9_has [.ref v0, .int v1, .int v3] σ (fun r3 σ2 => ((r3 = 0 → EV Γ MX9_many d 4 [some (.ref v0), some (.int v1), some (.int (v2 + 0)), some (.int (v3 + 1))] [] σ2 Q) ∧ (¬ r3 = 0 → EV Γ MX9_many d 4 [some (.ref v0), some (.int v1), some (.int (v2 + 1)), some (.int (v3 + 1))] [] σ2 Q))) (fun _ _ => False)))) : EV Γ MX9_many d 4 [some (.ref v0), some (.int v1), some (.int v2), some (.int v3)] [] σ Q := by
  refine EV.iload_n 5 rfl 3 rfl rfl dX9_many_4 ?_
  refine EV.sipush 8 rfl dX9_many_5 (v := 4096) (by decide) ?_
  refine EV.icmp_ge 11 34 rfl (by decide) dX9_many_8 (fun c1 => ?_) (fun c1 => ?_)
  · have h := h.1 c1
    refine EV.iload_n 35 rfl 2 rfl rfl dX9_many_34 ?_
    exact EV.iret rfl dX9_many_35 h
  · have h := h.2 c1
    refine EV.iload_n 12 rfl 2 rfl rfl dX9_many_11 ?_
    refine EV.aload_n 13 rfl 0 rfl rfl dX9_many_12 ?_
    refine EV.iload_n 14 rfl 1 rfl rfl dX9_many_13 ?_
    refine EV.iload_n 15 rfl 3 rfl rfl dX9_many_14 ?_
    refine EV.cS rfl lk_X9_65 rfl (vs := [.ref v0, .int v1, .int v3]) (st := [.int v2]) rfl rfl (Nat.le_of_ble_eq_true rfl) dX9_many_15 h (fun v σ2 h => ?_)
    obtain ⟨r3, rfl, h⟩ := h
    show EV Γ MX9_many d 18 [some (.ref v0), some (.int v1), some (.int v2), some (.int v3)] [.int r3, .int v2] σ2 Q
    refine EV.if_eq 21 25 rfl (by decide) dX9_many_18 (fun c4 => ?_) (fun c4 => ?_)
    · have h := h.1 c4
      refine EV.iconst 26 rfl dX9_many_25 (v := 0) (by decide) ?_
      refine EV.iadd 27 rfl dX9_many_26 ?_
      refine EV.istore_n 28 rfl 2 [some (.ref v0), some (.int v1), some (.int (v2 + 0)), some (.int v3)] rfl (by decide) rfl dX9_many_27 ?_
      refine EV.iinc 31 rfl [some (.ref v0), some (.int v1), some (.int (v2 + 0)), some (.int (v3 + 1))] (v := 1) (by decide) (by decide) rfl rfl dX9_many_28 ?_
      refine EV.goto 4 (by decide) dX9_many_31 ?_
      exact h
    · have h := h.2 c4
      refine EV.iconst 22 rfl dX9_many_21 (v := 1) (by decide) ?_
      refine EV.goto 26 (by decide) dX9_many_22 ?_
      refine EV.iadd 27 rfl dX9_many_26 ?_
      refine EV.istore_n 28 rfl 2 [some (.ref v0), some (.int v1), some (.int (v2 + 1)), some (.int v3)] rfl (by decide) rfl dX9_many_27 ?_
      refine EV.iinc 31 rfl [some (.ref v0), some (.int v1), some (.int (v2 + 1)), some (.int (v3 + 1))] (v := 1) (by decide) (by decide) rfl rfl dX9_many_28 ?_
      refine EV.goto 4 (by decide) dX9_many_31 ?_
      exact h
theorem gX9_countSubsets_0 {Γ : Gm} {d : Nat} {σ : AH} {Q : Oc → AH → Prop} {v0 : Nat} {v1 : Int32} {v2 : Nat} (h : EV Γ MX9_countSubsets d 2 [some (.ref v0), some (.int v1), some (.ref v2), some (.int 0), none] [] σ Q) : EV Γ MX9_countSubsets d 0 [some (.ref v0), some (.int v1), some (.ref v2), none, none] [] σ Q := by
  refine EV.iconst 1 rfl dX9_countSubsets_0 (v := 0) (by decide) ?_
  refine EV.istore_n 2 rfl 3 [some (.ref v0), some (.int v1), some (.ref v2), some (.int 0), none] rfl (by decide) rfl dX9_countSubsets_1 ?_
  exact h
theorem eX9_countSubsets {Γ : Gm} {d : Nat} {σ : AH} {Q : Oc → AH → Prop} {v0 : Nat} {v1 : Int32} {v2 : Nat} (h : EV Γ MX9_countSubsets d 2 [some (.ref v0), some (.int v1), some (.ref v2), some (.int 0), none] [] σ Q) : RUN Γ d MX9_countSubsets [.ref v0, .int v1, .ref v2] σ Q :=
  EV.enter [some (.ref v0), some (.int v1), some (.ref v2), none, none] rfl (by decide +kernel) (Nat.le_of_ble_eq_true rfl) rfl (gX9_countSubsets_0 h)
theorem gX9_countSubsets_2 {Γ : Gm} {d : Nat} {σ : AH} {Q : Oc → AH → Prop} {v0 : Nat} {v1 : Int32} {v2 : Nat} {v3 : Int32} (h : ((4096 ≤ v3 → EV Γ MX9_countSubsets d 34 [none, none, some (.ref v2), some (.int 0), none] [] σ Q) ∧ (¬ 4096 ≤ v3 → CI Γ d MX9_has [.ref v0, .int v1, .int v3] σ (fun r3 σ2 => ((r3 = 0 → ∃ n6 : Nat, hs σ2 v2 = some (23, n6) ∧ ∃ j7 : Nat, IX v3 n6 j7 ∧ ∀ σ9 : AH, σ9 = setJ σ2 v2 j7 0 → EV Γ MX9_countSubsets d 2 [some (.ref v0), some (.int v1), some (.ref v2), some (.int (v3 + 1)), none] [] σ9 Q) ∧ (¬ r3 = 0 → ∃ n13 : Nat, hs σ2 v2 = some (23, n13) ∧ ∃ j14 : Nat, IX v3 n13 j14 ∧ ∀ σ16 : AH, σ16 = setJ σ2 v2 j14 1 → EV Γ MX9_countSubsets d 2 [some (.ref v0), some (.int v1), some (.ref v2), some (.int (v3 + 1)), none] [] σ16 Q))) (fun _ _ => False)))) : EV Γ MX9_countSubsets d 2 [some (.ref v0), some (.int v1), some (.ref v2), some (.int v3), none] [] σ Q := by
  refine EV.iload_n 3 rfl 3 rfl rfl dX9_countSubsets_2 ?_
  refine EV.sipush 6 rfl dX9_countSubsets_3 (v := 4096) (by decide) ?_
  refine EV.icmp_ge 9 32 rfl (by decide) dX9_countSubsets_6 (fun c1 => ?_) (fun c1 => ?_)
  · have h := h.1 c1
    refine EV.iconst 33 rfl dX9_countSubsets_32 (v := 0) (by decide) ?_
    refine EV.istore_n 34 rfl 3 [some (.ref v0), some (.int v1), some (.ref v2), some (.int 0), none] rfl (by decide) rfl dX9_countSubsets_33 ?_
    refine EV.mask [false, false, true, true, false] (L' := [none, none, some (.ref v2), some (.int 0), none]) rfl ?_
    exact h
  · have h := h.2 c1
    refine EV.aload_n 10 rfl 2 rfl rfl dX9_countSubsets_9 ?_
    refine EV.iload_n 11 rfl 3 rfl rfl dX9_countSubsets_10 ?_
    refine EV.aload_n 12 rfl 0 rfl rfl dX9_countSubsets_11 ?_
    refine EV.iload_n 13 rfl 1 rfl rfl dX9_countSubsets_12 ?_
    refine EV.iload_n 14 rfl 3 rfl rfl dX9_countSubsets_13 ?_
    refine EV.cS rfl lk_X9_65 rfl (vs := [.ref v0, .int v1, .int v3]) (st := [.int v3, .ref v2]) rfl rfl (Nat.le_of_ble_eq_true rfl) dX9_countSubsets_14 h (fun v σ2 h => ?_)
    obtain ⟨r3, rfl, h⟩ := h
    show EV Γ MX9_countSubsets d 17 [some (.ref v0), some (.int v1), some (.ref v2), some (.int v3), none] [.int r3, .int v3, .ref v2] σ2 Q
    refine EV.if_eq 20 24 rfl (by decide) dX9_countSubsets_17 (fun c4 => ?_) (fun c4 => ?_)
    · have h := h.1 c4
      refine EV.lconst 25 rfl dX9_countSubsets_24 (v := 0) (by decide) ?_
      obtain ⟨n6, w5, h⟩ := h
      obtain ⟨j7, x8, h⟩ := h
      refine EV.last 26 rfl dX9_countSubsets_25 w5 x8 (EV.nm (fun σ9 e10 => ?_))
      have h := h σ9 e10
      have w11 := tr_hs (hs_setJ_of e10) w5
      refine EV.iinc 29 rfl [some (.ref v0), some (.int v1), some (.ref v2), some (.int (v3 + 1)), none] (v := 1) (by decide) (by decide) rfl rfl dX9_countSubsets_26 ?_
      refine EV.goto 2 (by decide) dX9_countSubsets_29 ?_
      exact h
    · have h := h.2 c4
      refine EV.lconst 21 rfl dX9_countSubsets_20 (v := 1) (by decide) ?_
      refine EV.goto 25 (by decide) dX9_countSubsets_21 ?_
      obtain ⟨n13, w12, h⟩ := h
      obtain ⟨j14, x15, h⟩ := h
      refine EV.last 26 rfl dX9_countSubsets_25 w12 x15 (EV.nm (fun σ16 e17 => ?_))
      have h := h σ16 e17
      have w18 := tr_hs (hs_setJ_of e17) w12
      refine EV.iinc 29 rfl [some (.ref v0), some (.int v1), some (.ref v2), some (.int (v3 + 1)), none] (v := 1) (by decide) (by decide) rfl rfl dX9_countSubsets_26 ?_
      refine EV.goto 2 (by decide) dX9_countSubsets_29 ?_
      exact h
theorem gX9_countSubsets_34 {Γ : Gm} {d : Nat} {σ : AH} {Q : Oc → AH → Prop} {v2 : Nat} {v3 : Int32} (h : ((12 ≤ v3 → Q (.inl none) σ) ∧ (¬ 12 ≤ v3 → EV Γ MX9_countSubsets d 43 [none, none, some (.ref v2), some (.int v3), some (.int 0)] [] σ Q))) : EV Γ MX9_countSubsets d 34 [none, none, some (.ref v2), some (.int v3), none] [] σ Q := by
  refine EV.iload_n 35 rfl 3 rfl rfl dX9_countSubsets_34 ?_
  refine EV.bipush 37 rfl dX9_countSubsets_35 (v := 12) (by decide) ?_
  refine EV.icmp_ge 40 88 rfl (by decide) dX9_countSubsets_37 (fun c1 => ?_) (fun c1 => ?_)
  · have h := h.1 c1
    exact EV.vret rfl dX9_countSubsets_88 h
  · have h := h.2 c1
    refine EV.iconst 41 rfl dX9_countSubsets_40 (v := 0) (by decide) ?_
    refine EV.istore 43 rfl [none, none, some (.ref v2), some (.int v3), some (.int 0)] (by decide) rfl dX9_countSubsets_41 ?_
    exact h
theorem gX9_countSubsets_43 {Γ : Gm} {d : Nat} {σ : AH} {Q : Oc → AH → Prop} {v2 : Nat} {v3 : Int32} {v4 : Int32} (h : ((4096 ≤ v4 → EV Γ MX9_countSubsets d 34 [none, none, some (.ref v2), some (.int (v3 + 1)), none] [] σ Q) ∧ (¬ 4096 ≤ v4 → ((((v4 >>> (v3 &&& 31)) &&& 1) ≠ 1 → EV Γ MX9_countSubsets d 43 [none, none, some (.ref v2), some (.int v3), some (.int (v4 + 1))] [] σ Q) ∧ (((v4 >>> (v3 &&& 31)) &&& 1) = 1 → ∃ n4 : Nat, hs σ v2 = some (23, n4) ∧ ∃ j5 : Nat, IX v4 n4 j5 ∧ ∃ j7 : Nat, IX (v4 - ((1 : Int32) <<< (v3 &&& 31))) n4 j7 ∧ ∀ σ9 : AH, σ9 = setJ σ v2 j5 ((gj σ v2 j5) + (gj σ v2 j7)) → EV Γ MX9_countSubsets d 43 [none, none, some (.ref v2), some (.int v3), some (.int (v4 + 1))] [] σ9 Q))))) : EV Γ MX9_countSubsets d 43 [none, none, some (.ref v2), some (.int v3), some (.int v4)] [] σ Q := by
  refine EV.iload 45 rfl rfl dX9_countSubsets_43 ?_
  refine EV.sipush 48 rfl dX9_countSubsets_45 (v := 4096) (by decide) ?_
  refine EV.icmp_ge 51 82 rfl (by decide) dX9_countSubsets_48 (fun c1 => ?_) (fun c1 => ?_)
  · have h := h.1 c1
    refine EV.iinc 85 rfl [none, none, some (.ref v2), some (.int (v3 + 1)), some (.int v4)] (v := 1) (by decide) (by decide) rfl rfl dX9_countSubsets_82 ?_
    refine EV.goto 34 (by decide) dX9_countSubsets_85 ?_
    refine EV.mask [false, false, true, true, false] (L' := [none, none, some (.ref v2), some (.int (v3 + 1)), none]) rfl ?_
    exact h
  · have h := h.2 c1
    refine EV.iload 53 rfl rfl dX9_countSubsets_51 ?_
    refine EV.iload_n 54 rfl 3 rfl rfl dX9_countSubsets_53 ?_
    refine EV.ishr 55 rfl dX9_countSubsets_54 ?_
    refine EV.iconst 56 rfl dX9_countSubsets_55 (v := 1) (by decide) ?_
    refine EV.iand 57 rfl dX9_countSubsets_56 ?_
    refine EV.iconst 58 rfl dX9_countSubsets_57 (v := 1) (by decide) ?_
    refine EV.icmp_ne 61 76 rfl (by decide) dX9_countSubsets_58 (fun c2 => ?_) (fun c2 => ?_)
    · have h := h.1 c2
      refine EV.iinc 79 rfl [none, none, some (.ref v2), some (.int v3), some (.int (v4 + 1))] (v := 1) (by decide) (by decide) rfl rfl dX9_countSubsets_76 ?_
      refine EV.goto 43 (by decide) dX9_countSubsets_79 ?_
      exact h
    · have h := h.2 c2
      refine EV.aload_n 62 rfl 2 rfl rfl dX9_countSubsets_61 ?_
      refine EV.iload 64 rfl rfl dX9_countSubsets_62 ?_
      refine EV.dup2 65 rfl dX9_countSubsets_64 rfl rfl ?_
      obtain ⟨n4, w3, h⟩ := h
      obtain ⟨j5, x6, h⟩ := h
      refine EV.lald 66 rfl dX9_countSubsets_65 w3 x6 ?_
      refine EV.aload_n 67 rfl 2 rfl rfl dX9_countSubsets_66 ?_
      refine EV.iload 69 rfl rfl dX9_countSubsets_67 ?_
      refine EV.iconst 70 rfl dX9_countSubsets_69 (v := 1) (by decide) ?_
      refine EV.iload_n 71 rfl 3 rfl rfl dX9_countSubsets_70 ?_
      refine EV.ishl 72 rfl dX9_countSubsets_71 ?_
      refine EV.isub 73 rfl dX9_countSubsets_72 ?_
      obtain ⟨j7, x8, h⟩ := h
      refine EV.lald 74 rfl dX9_countSubsets_73 w3 x8 ?_
      refine EV.ladd 75 rfl dX9_countSubsets_74 ?_
      refine EV.last 76 rfl dX9_countSubsets_75 w3 x6 (EV.nm (fun σ9 e10 => ?_))
      have h := h σ9 e10
      have w11 := tr_hs (hs_setJ_of e10) w3
      refine EV.iinc 79 rfl [none, none, some (.ref v2), some (.int v3), some (.int (v4 + 1))] (v := 1) (by decide) (by decide) rfl rfl dX9_countSubsets_76 ?_
      refine EV.goto 43 (by decide) dX9_countSubsets_79 ?_
      exact h
theorem gX9_countSupersets_0 {Γ : Gm} {d : Nat} {σ : AH} {Q : Oc → AH → Prop} {v0 : Nat} {v1 : Int32} {v2 : Nat} (h : EV Γ MX9_countSupersets d 2 [some (.ref v0), some (.int v1), some (.ref v2), some (.int 0), none] [] σ Q) : EV Γ MX9_countSupersets d 0 [some (.ref v0), some (.int v1), some (.ref v2), none, none] [] σ Q := by
  refine EV.iconst 1 rfl dX9_countSupersets_0 (v := 0) (by decide) ?_
  refine EV.istore_n 2 rfl 3 [some (.ref v0), some (.int v1), some (.ref v2), some (.int 0), none] rfl (by decide) rfl dX9_countSupersets_1 ?_
  exact h
theorem eX9_countSupersets {Γ : Gm} {d : Nat} {σ : AH} {Q : Oc → AH → Prop} {v0 : Nat} {v1 : Int32} {v2 : Nat} (h : EV Γ MX9_countSupersets d 2 [some (.ref v0), some (.int v1), some (.ref v2), some (.int 0), none] [] σ Q) : RUN Γ d MX9_countSupersets [.ref v0, .int v1, .ref v2] σ Q :=
  EV.enter [some (.ref v0), some (.int v1), some (.ref v2), none, none] rfl (by decide +kernel) (Nat.le_of_ble_eq_true rfl) rfl (gX9_countSupersets_0 h)
theorem gX9_countSupersets_2 {Γ : Gm} {d : Nat} {σ : AH} {Q : Oc → AH → Prop} {v0 : Nat} {v1 : Int32} {v2 : Nat} {v3 : Int32} (h : ((4096 ≤ v3 → EV Γ MX9_countSupersets d 34 [none, none, some (.ref v2), some (.int 0), none] [] σ Q) ∧ (¬ 4096 ≤ v3 → CI Γ d MX9_has [.ref v0, .int v1, .int v3] σ (fun r3 σ2 => ((r3 = 0 → ∃ n6 : Nat, hs σ2 v2 = some (23, n6) ∧ ∃ j7 : Nat, IX v3 n6 j7 ∧ ∀ σ9 : AH, σ9 = setJ σ2 v2 j7 0 → EV Γ MX9_countSupersets d 2 [some (.ref v0), some (.int v1), some (.ref v2), some (.int (v3 + 1)), none] [] σ9 Q) ∧ (¬ r3 = 0 → ∃ n13 : Nat, hs σ2 v2 = some (23, n13) ∧ ∃ j14 : Nat, IX v3 n13 j14 ∧ ∀ σ16 : AH, σ16 = setJ σ2 v2 j14 1 → EV Γ MX9_countSupersets d 2 [some (.ref v0), some (.int v1), some (.ref v2), some (.int (v3 + 1)), none] [] σ16 Q))) (fun _ _ => False)))) : EV Γ MX9_countSupersets d 2 [some (.ref v0), some (.int v1), some (.ref v2), some (.int v3), none] [] σ Q := by
  refine EV.iload_n 3 rfl 3 rfl rfl dX9_countSupersets_2 ?_
  refine EV.sipush 6 rfl dX9_countSupersets_3 (v := 4096) (by decide) ?_
  refine EV.icmp_ge 9 32 rfl (by decide) dX9_countSupersets_6 (fun c1 => ?_) (fun c1 => ?_)
  · have h := h.1 c1
    refine EV.iconst 33 rfl dX9_countSupersets_32 (v := 0) (by decide) ?_
    refine EV.istore_n 34 rfl 3 [some (.ref v0), some (.int v1), some (.ref v2), some (.int 0), none] rfl (by decide) rfl dX9_countSupersets_33 ?_
    refine EV.mask [false, false, true, true, false] (L' := [none, none, some (.ref v2), some (.int 0), none]) rfl ?_
    exact h
  · have h := h.2 c1
    refine EV.aload_n 10 rfl 2 rfl rfl dX9_countSupersets_9 ?_
    refine EV.iload_n 11 rfl 3 rfl rfl dX9_countSupersets_10 ?_
    refine EV.aload_n 12 rfl 0 rfl rfl dX9_countSupersets_11 ?_
    refine EV.iload_n 13 rfl 1 rfl rfl dX9_countSupersets_12 ?_
    refine EV.iload_n 14 rfl 3 rfl rfl dX9_countSupersets_13 ?_
    refine EV.cS rfl lk_X9_65 rfl (vs := [.ref v0, .int v1, .int v3]) (st := [.int v3, .ref v2]) rfl rfl (Nat.le_of_ble_eq_true rfl) dX9_countSupersets_14 h (fun v σ2 h => ?_)
    obtain ⟨r3, rfl, h⟩ := h
    show EV Γ MX9_countSupersets d 17 [some (.ref v0), some (.int v1), some (.ref v2), some (.int v3), none] [.int r3, .int v3, .ref v2] σ2 Q
    refine EV.if_eq 20 24 rfl (by decide) dX9_countSupersets_17 (fun c4 => ?_) (fun c4 => ?_)
    · have h := h.1 c4
      refine EV.lconst 25 rfl dX9_countSupersets_24 (v := 0) (by decide) ?_
      obtain ⟨n6, w5, h⟩ := h
      obtain ⟨j7, x8, h⟩ := h
      refine EV.last 26 rfl dX9_countSupersets_25 w5 x8 (EV.nm (fun σ9 e10 => ?_))
      have h := h σ9 e10
      have w11 := tr_hs (hs_setJ_of e10) w5
      refine EV.iinc 29 rfl [some (.ref v0), some (.int v1), some (.ref v2), some (.int (v3 + 1)), none] (v := 1) (by decide) (by decide) rfl rfl dX9_countSupersets_26 ?_
      refine EV.goto 2 (by decide) dX9_countSupersets_29 ?_
      exact h
    · have h := h.2 c4
      refine EV.lconst 21 rfl dX9_countSupersets_20 (v := 1) (by decide) ?_
      refine EV.goto 25 (by decide) dX9_countSupersets_21 ?_
      obtain ⟨n13, w12, h⟩ := h
      obtain ⟨j14, x15, h⟩ := h
      refine EV.last 26 rfl dX9_countSupersets_25 w12 x15 (EV.nm (fun σ16 e17 => ?_))
      have h := h σ16 e17
      have w18 := tr_hs (hs_setJ_of e17) w12
      refine EV.iinc 29 rfl [some (.ref v0), some (.int v1), some (.ref v2), some (.int (v3 + 1)), none] (v := 1) (by decide) (by decide) rfl rfl dX9_countSupersets_26 ?_
      refine EV.goto 2 (by decide) dX9_countSupersets_29 ?_
      exact h
theorem gX9_countSupersets_34 {Γ : Gm} {d : Nat} {σ : AH} {Q : Oc → AH → Prop} {v2 : Nat} {v3 : Int32} (h : ((12 ≤ v3 → Q (.inl none) σ) ∧ (¬ 12 ≤ v3 → EV Γ MX9_countSupersets d 43 [none, none, some (.ref v2), some (.int v3), some (.int 0)] [] σ Q))) : EV Γ MX9_countSupersets d 34 [none, none, some (.ref v2), some (.int v3), none] [] σ Q := by
  refine EV.iload_n 35 rfl 3 rfl rfl dX9_countSupersets_34 ?_
  refine EV.bipush 37 rfl dX9_countSupersets_35 (v := 12) (by decide) ?_
  refine EV.icmp_ge 40 87 rfl (by decide) dX9_countSupersets_37 (fun c1 => ?_) (fun c1 => ?_)
  · have h := h.1 c1
    exact EV.vret rfl dX9_countSupersets_87 h
  · have h := h.2 c1
    refine EV.iconst 41 rfl dX9_countSupersets_40 (v := 0) (by decide) ?_
    refine EV.istore 43 rfl [none, none, some (.ref v2), some (.int v3), some (.int 0)] (by decide) rfl dX9_countSupersets_41 ?_
    exact h
theorem gX9_countSupersets_43 {Γ : Gm} {d : Nat} {σ : AH} {Q : Oc → AH → Prop} {v2 : Nat} {v3 : Int32} {v4 : Int32} (h : ((4096 ≤ v4 → EV Γ MX9_countSupersets d 34 [none, none, some (.ref v2), some (.int (v3 + 1)), none] [] σ Q) ∧ (¬ 4096 ≤ v4 → ((((v4 >>> (v3 &&& 31)) &&& 1) ≠ 0 → EV Γ MX9_countSupersets d 43 [none, none, some (.ref v2), some (.int v3), some (.int (v4 + 1))] [] σ Q) ∧ (((v4 >>> (v3 &&& 31)) &&& 1) = 0 → ∃ n4 : Nat, hs σ v2 = some (23, n4) ∧ ∃ j5 : Nat, IX v4 n4 j5 ∧ ∃ j7 : Nat, IX (v4 + ((1 : Int32) <<< (v3 &&& 31))) n4 j7 ∧ ∀ σ9 : AH, σ9 = setJ σ v2 j5 ((gj σ v2 j5) + (gj σ v2 j7)) → EV Γ MX9_countSupersets d 43 [none, none, some (.ref v2), some (.int v3), some (.int (v4 + 1))] [] σ9 Q))))) : EV Γ MX9_countSupersets d 43 [none, none, some (.ref v2), some (.int v3), some (.int v4)] [] σ Q := by
  refine EV.iload 45 rfl rfl dX9_countSupersets_43 ?_
  refine EV.sipush 48 rfl dX9_countSupersets_45 (v := 4096) (by decide) ?_
  refine EV.icmp_ge 51 81 rfl (by decide) dX9_countSupersets_48 (fun c1 => ?_) (fun c1 => ?_)
  · have h := h.1 c1
    refine EV.iinc 84 rfl [none, none, some (.ref v2), some (.int (v3 + 1)), some (.int v4)] (v := 1) (by decide) (by decide) rfl rfl dX9_countSupersets_81 ?_
    refine EV.goto 34 (by decide) dX9_countSupersets_84 ?_
    refine EV.mask [false, false, true, true, false] (L' := [none, none, some (.ref v2), some (.int (v3 + 1)), none]) rfl ?_
    exact h
  · have h := h.2 c1
    refine EV.iload 53 rfl rfl dX9_countSupersets_51 ?_
    refine EV.iload_n 54 rfl 3 rfl rfl dX9_countSupersets_53 ?_
    refine EV.ishr 55 rfl dX9_countSupersets_54 ?_
    refine EV.iconst 56 rfl dX9_countSupersets_55 (v := 1) (by decide) ?_
    refine EV.iand 57 rfl dX9_countSupersets_56 ?_
    refine EV.if_ne 60 75 rfl (by decide) dX9_countSupersets_57 (fun c2 => ?_) (fun c2 => ?_)
    · have h := h.1 c2
      refine EV.iinc 78 rfl [none, none, some (.ref v2), some (.int v3), some (.int (v4 + 1))] (v := 1) (by decide) (by decide) rfl rfl dX9_countSupersets_75 ?_
      refine EV.goto 43 (by decide) dX9_countSupersets_78 ?_
      exact h
    · have h := h.2 c2
      refine EV.aload_n 61 rfl 2 rfl rfl dX9_countSupersets_60 ?_
      refine EV.iload 63 rfl rfl dX9_countSupersets_61 ?_
      refine EV.dup2 64 rfl dX9_countSupersets_63 rfl rfl ?_
      obtain ⟨n4, w3, h⟩ := h
      obtain ⟨j5, x6, h⟩ := h
      refine EV.lald 65 rfl dX9_countSupersets_64 w3 x6 ?_
      refine EV.aload_n 66 rfl 2 rfl rfl dX9_countSupersets_65 ?_
      refine EV.iload 68 rfl rfl dX9_countSupersets_66 ?_
      refine EV.iconst 69 rfl dX9_countSupersets_68 (v := 1) (by decide) ?_
      refine EV.iload_n 70 rfl 3 rfl rfl dX9_countSupersets_69 ?_
      refine EV.ishl 71 rfl dX9_countSupersets_70 ?_
      refine EV.iadd 72 rfl dX9_countSupersets_71 ?_
      obtain ⟨j7, x8, h⟩ := h
      refine EV.lald 73 rfl dX9_countSupersets_72 w3 x8 ?_
      refine EV.ladd 74 rfl dX9_countSupersets_73 ?_
      refine EV.last 75 rfl dX9_countSupersets_74 w3 x6 (EV.nm (fun σ9 e10 => ?_))
      have h := h σ9 e10
      have w11 := tr_hs (hs_setJ_of e10) w3
      refine EV.iinc 78 rfl [none, none, some (.ref v2), some (.int v3), some (.int (v4 + 1))] (v := 1) (by decide) (by decide) rfl rfl dX9_countSupersets_75 ?_
      refine EV.goto 43 (by decide) dX9_countSupersets_78 ?_
      exact h
theorem gX9_operate_0 {Γ : Gm} {d : Nat} {σ : AH} {Q : Oc → AH → Prop} {v0 : Nat} {v1 : Int32} {v2 : Int32} {v3 : Int32} (h : hs σ v0 = some (7, 27) ∧ ∃ t2 : Nat, gr σ v0 15 = some t2 ∧ CV Γ d MX9_clear [.ref t2, .int 108] σ (fun σ4 => ((Int32.toInt v1 = 4 → hs σ4 v0 = some (7, 27) ∧ CV Γ d MX9_joinRows [.ref v0, .int v2, .int v3] σ4 (fun σ6 => EV Γ MX9_operate d 114 [some (.ref v0), none, some (.int v2), none, some (.int 0)] [] σ6 Q) (fun E σ6 => Q (.inr E) σ6)) ∧ (Int32.toInt v1 = 5 → hs σ4 v0 = some (7, 27) ∧ CV Γ d MX9_divideRows [.ref v0, .int v2, .int v3] σ4 (fun σ9 => EV Γ MX9_operate d 114 [some (.ref v0), none, some (.int v2), none, some (.int 0)] [] σ9 Q) (fun E σ9 => Q (.inr E) σ9)) ∧ (Int32.toInt v1 = 6 → hs σ4 v0 = some (7, 27) ∧ CV Γ d MX9_restRows [.ref v0, .int v2, .int v3] σ4 (fun σ12 => EV Γ MX9_operate d 114 [some (.ref v0), none, some (.int v2), none, some (.int 0)] [] σ12 Q) (fun E σ12 => Q (.inr E) σ12)) ∧ (Int32.toInt v1 = 7 → hs σ4 v0 = some (7, 27) ∧ CV Γ d MX9_meetRows [.ref v0, .int v2, .int v3] σ4 (fun σ15 => EV Γ MX9_operate d 114 [some (.ref v0), none, some (.int v2), none, some (.int 0)] [] σ15 Q) (fun E σ15 => Q (.inr E) σ15)) ∧ (Int32.toInt v1 = 8 → hs σ4 v0 = some (7, 27) ∧ CV Γ d MX9_filter [.ref v0, .int v1, .int v2, .int v3] σ4 (fun σ18 => EV Γ MX9_operate d 114 [some (.ref v0), none, some (.int v2), none, some (.int 0)] [] σ18 Q) (fun E σ18 => Q (.inr E) σ18)) ∧ (Int32.toInt v1 = 9 → hs σ4 v0 = some (7, 27) ∧ CV Γ d MX9_filter [.ref v0, .int v1, .int v2, .int v3] σ4 (fun σ21 => EV Γ MX9_operate d 114 [some (.ref v0), none, some (.int v2), none, some (.int 0)] [] σ21 Q) (fun E σ21 => Q (.inr E) σ21)) ∧ (Int32.toInt v1 = 10 → hs σ4 v0 = some (7, 27) ∧ CV Γ d MX9_filter [.ref v0, .int v1, .int v2, .int v3] σ4 (fun σ24 => EV Γ MX9_operate d 114 [some (.ref v0), none, some (.int v2), none, some (.int 0)] [] σ24 Q) (fun E σ24 => Q (.inr E) σ24)) ∧ (Int32.toInt v1 = 11 → hs σ4 v0 = some (7, 27) ∧ CV Γ d MX9_filter [.ref v0, .int v1, .int v2, .int v3] σ4 (fun σ27 => EV Γ MX9_operate d 114 [some (.ref v0), none, some (.int v2), none, some (.int 0)] [] σ27 Q) (fun E σ27 => Q (.inr E) σ27)) ∧ (Int32.toInt v1 = 12 → hs σ4 v0 = some (7, 27) ∧ CV Γ d MX9_hit [.ref v0, .int v2] σ4 (fun σ30 => EV Γ MX9_operate d 114 [some (.ref v0), none, some (.int v2), none, some (.int 0)] [] σ30 Q) (fun E σ30 => Q (.inr E) σ30)) ∧ (Int32.toInt v1 < 4 ∨ 12 < Int32.toInt v1 → hs σ4 v0 = some (7, 27) ∧ CV Γ d MX9_filter [.ref v0, .int v1, .int v2, .int v3] σ4 (fun σ33 => EV Γ MX9_operate d 114 [some (.ref v0), none, some (.int v2), none, some (.int 0)] [] σ33 Q) (fun E σ33 => Q (.inr E) σ33)))) (fun _ _ => False)) : EV Γ MX9_operate d 0 [some (.ref v0), some (.int v1), some (.int v2), some (.int v3), none] [] σ Q := by
  refine EV.aload_n 1 rfl 0 rfl rfl dX9_operate_0 ?_
  obtain ⟨w1, h⟩ := h
  obtain ⟨t2, g3, h⟩ := h
  refine EV.getR 4 rfl fl_X9_41 rfl dX9_operate_1 w1 g3 ?_
  refine EV.bipush 6 rfl dX9_operate_4 (v := 108) (by decide) ?_
  refine EV.cS rfl lk_X9_69 rfl (vs := [.ref t2, .int 108]) (st := []) rfl rfl (Nat.le_of_ble_eq_true rfl) dX9_operate_6 h (fun v σ4 h => ?_)
  obtain ⟨rfl, h⟩ := h
  show EV Γ MX9_operate d 9 [some (.ref v0), some (.int v1), some (.int v2), some (.int v3), none] [] σ4 Q
  refine EV.iload_n 10 rfl 1 rfl rfl dX9_operate_9 ?_
  refine EV.tableswitch dX9_operate_10 (fun j off c1 c2 ho => ?_) (fun j c1 c2 ho => ?_) (fun c1 => ?_)
  · match j, c1, ho with
    | 0, c1, ho =>
      cases ho
      refine ⟨60, rfl, ?_⟩
      have h := h.1 (by omega)
      refine EV.aload_n 61 rfl 0 rfl rfl dX9_operate_60 ?_
      refine EV.iload_n 62 rfl 2 rfl rfl dX9_operate_61 ?_
      refine EV.iload_n 63 rfl 3 rfl rfl dX9_operate_62 ?_
      obtain ⟨w8, h⟩ := h
      refine EV.cV rfl rfl lk_X9_73 rfl (vs := [.int v2, .int v3]) (st := []) rfl rfl (Nat.le_of_ble_eq_true rfl) dX9_operate_63 w8 h (fun v σ6 h => ?_)
      obtain ⟨rfl, h⟩ := h
      show EV Γ MX9_operate d 66 [some (.ref v0), some (.int v1), some (.int v2), some (.int v3), none] [] σ6 Q
      refine EV.goto 111 (by decide) dX9_operate_66 ?_
      refine EV.iconst 112 rfl dX9_operate_111 (v := 0) (by decide) ?_
      refine EV.istore 114 rfl [some (.ref v0), some (.int v1), some (.int v2), some (.int v3), some (.int 0)] (by decide) rfl dX9_operate_112 ?_
      refine EV.mask [true, false, true, false, true] (L' := [some (.ref v0), none, some (.int v2), none, some (.int 0)]) rfl ?_
      exact h
    | 1, c1, ho =>
      cases ho
      refine ⟨78, rfl, ?_⟩
      have h := h.2.1 (by omega)
      refine EV.aload_n 79 rfl 0 rfl rfl dX9_operate_78 ?_
      refine EV.iload_n 80 rfl 2 rfl rfl dX9_operate_79 ?_
      refine EV.iload_n 81 rfl 3 rfl rfl dX9_operate_80 ?_
      obtain ⟨w11, h⟩ := h
      refine EV.cV rfl rfl lk_X9_80 rfl (vs := [.int v2, .int v3]) (st := []) rfl rfl (Nat.le_of_ble_eq_true rfl) dX9_operate_81 w11 h (fun v σ9 h => ?_)
      obtain ⟨rfl, h⟩ := h
      show EV Γ MX9_operate d 84 [some (.ref v0), some (.int v1), some (.int v2), some (.int v3), none] [] σ9 Q
      refine EV.goto 111 (by decide) dX9_operate_84 ?_
      refine EV.iconst 112 rfl dX9_operate_111 (v := 0) (by decide) ?_
      refine EV.istore 114 rfl [some (.ref v0), some (.int v1), some (.int v2), some (.int v3), some (.int 0)] (by decide) rfl dX9_operate_112 ?_
      refine EV.mask [true, false, true, false, true] (L' := [some (.ref v0), none, some (.int v2), none, some (.int 0)]) rfl ?_
      exact h
    | 2, c1, ho =>
      cases ho
      refine ⟨87, rfl, ?_⟩
      have h := h.2.2.1 (by omega)
      refine EV.aload_n 88 rfl 0 rfl rfl dX9_operate_87 ?_
      refine EV.iload_n 89 rfl 2 rfl rfl dX9_operate_88 ?_
      refine EV.iload_n 90 rfl 3 rfl rfl dX9_operate_89 ?_
      obtain ⟨w14, h⟩ := h
      refine EV.cV rfl rfl lk_X9_83 rfl (vs := [.int v2, .int v3]) (st := []) rfl rfl (Nat.le_of_ble_eq_true rfl) dX9_operate_90 w14 h (fun v σ12 h => ?_)
      obtain ⟨rfl, h⟩ := h
      show EV Γ MX9_operate d 93 [some (.ref v0), some (.int v1), some (.int v2), some (.int v3), none] [] σ12 Q
      refine EV.goto 111 (by decide) dX9_operate_93 ?_
      refine EV.iconst 112 rfl dX9_operate_111 (v := 0) (by decide) ?_
      refine EV.istore 114 rfl [some (.ref v0), some (.int v1), some (.int v2), some (.int v3), some (.int 0)] (by decide) rfl dX9_operate_112 ?_
      refine EV.mask [true, false, true, false, true] (L' := [some (.ref v0), none, some (.int v2), none, some (.int 0)]) rfl ?_
      exact h
    | 3, c1, ho =>
      cases ho
      refine ⟨69, rfl, ?_⟩
      have h := h.2.2.2.1 (by omega)
      refine EV.aload_n 70 rfl 0 rfl rfl dX9_operate_69 ?_
      refine EV.iload_n 71 rfl 2 rfl rfl dX9_operate_70 ?_
      refine EV.iload_n 72 rfl 3 rfl rfl dX9_operate_71 ?_
      obtain ⟨w17, h⟩ := h
      refine EV.cV rfl rfl lk_X9_77 rfl (vs := [.int v2, .int v3]) (st := []) rfl rfl (Nat.le_of_ble_eq_true rfl) dX9_operate_72 w17 h (fun v σ15 h => ?_)
      obtain ⟨rfl, h⟩ := h
      show EV Γ MX9_operate d 75 [some (.ref v0), some (.int v1), some (.int v2), some (.int v3), none] [] σ15 Q
      refine EV.goto 111 (by decide) dX9_operate_75 ?_
      refine EV.iconst 112 rfl dX9_operate_111 (v := 0) (by decide) ?_
      refine EV.istore 114 rfl [some (.ref v0), some (.int v1), some (.int v2), some (.int v3), some (.int 0)] (by decide) rfl dX9_operate_112 ?_
      refine EV.mask [true, false, true, false, true] (L' := [some (.ref v0), none, some (.int v2), none, some (.int 0)]) rfl ?_
      exact h
    | 4, c1, ho =>
      cases ho
      refine ⟨104, rfl, ?_⟩
      have h := h.2.2.2.2.1 (by omega)
      refine EV.aload_n 105 rfl 0 rfl rfl dX9_operate_104 ?_
      refine EV.iload_n 106 rfl 1 rfl rfl dX9_operate_105 ?_
      refine EV.iload_n 107 rfl 2 rfl rfl dX9_operate_106 ?_
      refine EV.iload_n 108 rfl 3 rfl rfl dX9_operate_107 ?_
      obtain ⟨w20, h⟩ := h
      refine EV.cV rfl rfl lk_X9_90 rfl (vs := [.int v1, .int v2, .int v3]) (st := []) rfl rfl (Nat.le_of_ble_eq_true rfl) dX9_operate_108 w20 h (fun v σ18 h => ?_)
      obtain ⟨rfl, h⟩ := h
      show EV Γ MX9_operate d 111 [some (.ref v0), some (.int v1), some (.int v2), some (.int v3), none] [] σ18 Q
      refine EV.iconst 112 rfl dX9_operate_111 (v := 0) (by decide) ?_
      refine EV.istore 114 rfl [some (.ref v0), some (.int v1), some (.int v2), some (.int v3), some (.int 0)] (by decide) rfl dX9_operate_112 ?_
      refine EV.mask [true, false, true, false, true] (L' := [some (.ref v0), none, some (.int v2), none, some (.int 0)]) rfl ?_
      exact h
    | 5, c1, ho =>
      cases ho
      refine ⟨104, rfl, ?_⟩
      have h := h.2.2.2.2.2.1 (by omega)
      refine EV.aload_n 105 rfl 0 rfl rfl dX9_operate_104 ?_
      refine EV.iload_n 106 rfl 1 rfl rfl dX9_operate_105 ?_
      refine EV.iload_n 107 rfl 2 rfl rfl dX9_operate_106 ?_
      refine EV.iload_n 108 rfl 3 rfl rfl dX9_operate_107 ?_
      obtain ⟨w23, h⟩ := h
      refine EV.cV rfl rfl lk_X9_90 rfl (vs := [.int v1, .int v2, .int v3]) (st := []) rfl rfl (Nat.le_of_ble_eq_true rfl) dX9_operate_108 w23 h (fun v σ21 h => ?_)
      obtain ⟨rfl, h⟩ := h
      show EV Γ MX9_operate d 111 [some (.ref v0), some (.int v1), some (.int v2), some (.int v3), none] [] σ21 Q
      refine EV.iconst 112 rfl dX9_operate_111 (v := 0) (by decide) ?_
      refine EV.istore 114 rfl [some (.ref v0), some (.int v1), some (.int v2), some (.int v3), some (.int 0)] (by decide) rfl dX9_operate_112 ?_
      refine EV.mask [true, false, true, false, true] (L' := [some (.ref v0), none, some (.int v2), none, some (.int 0)]) rfl ?_
      exact h
    | 6, c1, ho =>
      cases ho
      refine ⟨104, rfl, ?_⟩
      have h := h.2.2.2.2.2.2.1 (by omega)
      refine EV.aload_n 105 rfl 0 rfl rfl dX9_operate_104 ?_
      refine EV.iload_n 106 rfl 1 rfl rfl dX9_operate_105 ?_
      refine EV.iload_n 107 rfl 2 rfl rfl dX9_operate_106 ?_
      refine EV.iload_n 108 rfl 3 rfl rfl dX9_operate_107 ?_
      obtain ⟨w26, h⟩ := h
      refine EV.cV rfl rfl lk_X9_90 rfl (vs := [.int v1, .int v2, .int v3]) (st := []) rfl rfl (Nat.le_of_ble_eq_true rfl) dX9_operate_108 w26 h (fun v σ24 h => ?_)
      obtain ⟨rfl, h⟩ := h
      show EV Γ MX9_operate d 111 [some (.ref v0), some (.int v1), some (.int v2), some (.int v3), none] [] σ24 Q
      refine EV.iconst 112 rfl dX9_operate_111 (v := 0) (by decide) ?_
      refine EV.istore 114 rfl [some (.ref v0), some (.int v1), some (.int v2), some (.int v3), some (.int 0)] (by decide) rfl dX9_operate_112 ?_
      refine EV.mask [true, false, true, false, true] (L' := [some (.ref v0), none, some (.int v2), none, some (.int 0)]) rfl ?_
      exact h
    | 7, c1, ho =>
      cases ho
      refine ⟨104, rfl, ?_⟩
      have h := h.2.2.2.2.2.2.2.1 (by omega)
      refine EV.aload_n 105 rfl 0 rfl rfl dX9_operate_104 ?_
      refine EV.iload_n 106 rfl 1 rfl rfl dX9_operate_105 ?_
      refine EV.iload_n 107 rfl 2 rfl rfl dX9_operate_106 ?_
      refine EV.iload_n 108 rfl 3 rfl rfl dX9_operate_107 ?_
      obtain ⟨w29, h⟩ := h
      refine EV.cV rfl rfl lk_X9_90 rfl (vs := [.int v1, .int v2, .int v3]) (st := []) rfl rfl (Nat.le_of_ble_eq_true rfl) dX9_operate_108 w29 h (fun v σ27 h => ?_)
      obtain ⟨rfl, h⟩ := h
      show EV Γ MX9_operate d 111 [some (.ref v0), some (.int v1), some (.int v2), some (.int v3), none] [] σ27 Q
      refine EV.iconst 112 rfl dX9_operate_111 (v := 0) (by decide) ?_
      refine EV.istore 114 rfl [some (.ref v0), some (.int v1), some (.int v2), some (.int v3), some (.int 0)] (by decide) rfl dX9_operate_112 ?_
      refine EV.mask [true, false, true, false, true] (L' := [some (.ref v0), none, some (.int v2), none, some (.int 0)]) rfl ?_
      exact h
    | 8, c1, ho =>
      cases ho
      refine ⟨96, rfl, ?_⟩
      have h := h.2.2.2.2.2.2.2.2.1 (by omega)
      refine EV.aload_n 97 rfl 0 rfl rfl dX9_operate_96 ?_
      refine EV.iload_n 98 rfl 2 rfl rfl dX9_operate_97 ?_
      obtain ⟨w32, h⟩ := h
      refine EV.cV rfl rfl lk_X9_86 rfl (vs := [.int v2]) (st := []) rfl rfl (Nat.le_of_ble_eq_true rfl) dX9_operate_98 w32 h (fun v σ30 h => ?_)
      obtain ⟨rfl, h⟩ := h
      show EV Γ MX9_operate d 101 [some (.ref v0), some (.int v1), some (.int v2), some (.int v3), none] [] σ30 Q
      refine EV.goto 111 (by decide) dX9_operate_101 ?_
      refine EV.iconst 112 rfl dX9_operate_111 (v := 0) (by decide) ?_
      refine EV.istore 114 rfl [some (.ref v0), some (.int v1), some (.int v2), some (.int v3), some (.int 0)] (by decide) rfl dX9_operate_112 ?_
      refine EV.mask [true, false, true, false, true] (L' := [some (.ref v0), none, some (.int v2), none, some (.int 0)]) rfl ?_
      exact h
    | j + 9, c1, ho => exact absurd c2 (by omega)
  · match j, c1, ho with
    | 0, c1, ho => cases ho
    | 1, c1, ho => cases ho
    | 2, c1, ho => cases ho
    | 3, c1, ho => cases ho
    | 4, c1, ho => cases ho
    | 5, c1, ho => cases ho
    | 6, c1, ho => cases ho
    | 7, c1, ho => cases ho
    | 8, c1, ho => cases ho
    | j + 9, c1, ho => exact absurd c2 (by omega)
  · refine ⟨104, rfl, ?_⟩
    have h := h.2.2.2.2.2.2.2.2.2 c1
    refine EV.aload_n 105 rfl 0 rfl rfl dX9_operate_104 ?_
    refine EV.iload_n 106 rfl 1 rfl rfl dX9_operate_105 ?_
    refine EV.iload_n 107 rfl 2 rfl rfl dX9_operate_106 ?_
    refine EV.iload_n 108 rfl 3 rfl rfl dX9_operate_107 ?_
    obtain ⟨w35, h⟩ := h
    refine EV.cV rfl rfl lk_X9_90 rfl (vs := [.int v1, .int v2, .int v3]) (st := []) rfl rfl (Nat.le_of_ble_eq_true rfl) dX9_operate_108 w35 h (fun v σ33 h => ?_)
    obtain ⟨rfl, h⟩ := h
    show EV Γ MX9_operate d 111 [some (.ref v0), some (.int v1), some (.int v2), some (.int v3), none] [] σ33 Q
    refine EV.iconst 112 rfl dX9_operate_111 (v := 0) (by decide) ?_
    refine EV.istore 114 rfl [some (.ref v0), some (.int v1), some (.int v2), some (.int v3), some (.int 0)] (by decide) rfl dX9_operate_112 ?_
    refine EV.mask [true, false, true, false, true] (L' := [some (.ref v0), none, some (.int v2), none, some (.int 0)]) rfl ?_
    exact h
theorem eX9_operate {Γ : Gm} {d : Nat} {σ : AH} {Q : Oc → AH → Prop} {v0 : Nat} {v1 : Int32} {v2 : Int32} {v3 : Int32} (h : hs σ v0 = some (7, 27) ∧ ∃ t2 : Nat, gr σ v0 15 = some t2 ∧ CV Γ d MX9_clear [.ref t2, .int 108] σ (fun σ4 => ((Int32.toInt v1 = 4 → hs σ4 v0 = some (7, 27) ∧ CV Γ d MX9_joinRows [.ref v0, .int v2, .int v3] σ4 (fun σ6 => EV Γ MX9_operate d 114 [some (.ref v0), none, some (.int v2), none, some (.int 0)] [] σ6 Q) (fun E σ6 => Q (.inr E) σ6)) ∧ (Int32.toInt v1 = 5 → hs σ4 v0 = some (7, 27) ∧ CV Γ d MX9_divideRows [.ref v0, .int v2, .int v3] σ4 (fun σ9 => EV Γ MX9_operate d 114 [some (.ref v0), none, some (.int v2), none, some (.int 0)] [] σ9 Q) (fun E σ9 => Q (.inr E) σ9)) ∧ (Int32.toInt v1 = 6 → hs σ4 v0 = some (7, 27) ∧ CV Γ d MX9_restRows [.ref v0, .int v2, .int v3] σ4 (fun σ12 => EV Γ MX9_operate d 114 [some (.ref v0), none, some (.int v2), none, some (.int 0)] [] σ12 Q) (fun E σ12 => Q (.inr E) σ12)) ∧ (Int32.toInt v1 = 7 → hs σ4 v0 = some (7, 27) ∧ CV Γ d MX9_meetRows [.ref v0, .int v2, .int v3] σ4 (fun σ15 => EV Γ MX9_operate d 114 [some (.ref v0), none, some (.int v2), none, some (.int 0)] [] σ15 Q) (fun E σ15 => Q (.inr E) σ15)) ∧ (Int32.toInt v1 = 8 → hs σ4 v0 = some (7, 27) ∧ CV Γ d MX9_filter [.ref v0, .int v1, .int v2, .int v3] σ4 (fun σ18 => EV Γ MX9_operate d 114 [some (.ref v0), none, some (.int v2), none, some (.int 0)] [] σ18 Q) (fun E σ18 => Q (.inr E) σ18)) ∧ (Int32.toInt v1 = 9 → hs σ4 v0 = some (7, 27) ∧ CV Γ d MX9_filter [.ref v0, .int v1, .int v2, .int v3] σ4 (fun σ21 => EV Γ MX9_operate d 114 [some (.ref v0), none, some (.int v2), none, some (.int 0)] [] σ21 Q) (fun E σ21 => Q (.inr E) σ21)) ∧ (Int32.toInt v1 = 10 → hs σ4 v0 = some (7, 27) ∧ CV Γ d MX9_filter [.ref v0, .int v1, .int v2, .int v3] σ4 (fun σ24 => EV Γ MX9_operate d 114 [some (.ref v0), none, some (.int v2), none, some (.int 0)] [] σ24 Q) (fun E σ24 => Q (.inr E) σ24)) ∧ (Int32.toInt v1 = 11 → hs σ4 v0 = some (7, 27) ∧ CV Γ d MX9_filter [.ref v0, .int v1, .int v2, .int v3] σ4 (fun σ27 => EV Γ MX9_operate d 114 [some (.ref v0), none, some (.int v2), none, some (.int 0)] [] σ27 Q) (fun E σ27 => Q (.inr E) σ27)) ∧ (Int32.toInt v1 = 12 → hs σ4 v0 = some (7, 27) ∧ CV Γ d MX9_hit [.ref v0, .int v2] σ4 (fun σ30 => EV Γ MX9_operate d 114 [some (.ref v0), none, some (.int v2), none, some (.int 0)] [] σ30 Q) (fun E σ30 => Q (.inr E) σ30)) ∧ (Int32.toInt v1 < 4 ∨ 12 < Int32.toInt v1 → hs σ4 v0 = some (7, 27) ∧ CV Γ d MX9_filter [.ref v0, .int v1, .int v2, .int v3] σ4 (fun σ33 => EV Γ MX9_operate d 114 [some (.ref v0), none, some (.int v2), none, some (.int 0)] [] σ33 Q) (fun E σ33 => Q (.inr E) σ33)))) (fun _ _ => False)) : RUN Γ d MX9_operate [.ref v0, .int v1, .int v2, .int v3] σ Q :=
  EV.enter [some (.ref v0), some (.int v1), some (.int v2), some (.int v3), none] rfl (by decide +kernel) (Nat.le_of_ble_eq_true rfl) rfl (gX9_operate_0 h)
theorem gX9_operate_114 {Γ : Gm} {d : Nat} {σ : AH} {Q : Oc → AH → Prop} {v0 : Nat} {v2 : Int32} {v4 : Int32} (h : ((64 ≤ v4 → Q (.inl none) σ) ∧ (¬ 64 ≤ v4 → hs σ v0 = some (7, 27) ∧ ∃ t3 : Nat, gr σ v0 15 = some t3 ∧ ∃ n6 : Nat, hs σ t3 = some (23, n6) ∧ ∃ j7 : Nat, IX ((6912 : Int32) + v4) n6 j7 ∧ ∃ j9 : Nat, IX (((64 : Int32) * v2) + v4) n6 j9 ∧ ∀ σ11 : AH, σ11 = setJ σ t3 j9 (gj σ t3 j7) → EV Γ MX9_operate d 114 [some (.ref v0), none, some (.int v2), none, some (.int (v4 + 1))] [] σ11 Q))) : EV Γ MX9_operate d 114 [some (.ref v0), none, some (.int v2), none, some (.int v4)] [] σ Q := by
  refine EV.iload 116 rfl rfl dX9_operate_114 ?_
  refine EV.bipush 118 rfl dX9_operate_116 (v := 64) (by decide) ?_
  refine EV.icmp_ge 121 150 rfl (by decide) dX9_operate_118 (fun c1 => ?_) (fun c1 => ?_)
  · have h := h.1 c1
    exact EV.vret rfl dX9_operate_150 h
  · have h := h.2 c1
    refine EV.aload_n 122 rfl 0 rfl rfl dX9_operate_121 ?_
    obtain ⟨w2, h⟩ := h
    obtain ⟨t3, g4, h⟩ := h
    refine EV.getR 125 rfl fl_X9_41 rfl dX9_operate_122 w2 g4 ?_
    refine EV.bipush 127 rfl dX9_operate_125 (v := 64) (by decide) ?_
    refine EV.iload_n 128 rfl 2 rfl rfl dX9_operate_127 ?_
    refine EV.imul 129 rfl dX9_operate_128 ?_
    refine EV.iload 131 rfl rfl dX9_operate_129 ?_
    refine EV.iadd 132 rfl dX9_operate_131 ?_
    refine EV.aload_n 133 rfl 0 rfl rfl dX9_operate_132 ?_
    refine EV.getR 136 rfl fl_X9_41 rfl dX9_operate_133 w2 g4 ?_
    refine EV.sipush 139 rfl dX9_operate_136 (v := 6912) (by decide) ?_
    refine EV.iload 141 rfl rfl dX9_operate_139 ?_
    refine EV.iadd 142 rfl dX9_operate_141 ?_
    obtain ⟨n6, w5, h⟩ := h
    obtain ⟨j7, x8, h⟩ := h
    refine EV.lald 143 rfl dX9_operate_142 w5 x8 ?_
    obtain ⟨j9, x10, h⟩ := h
    refine EV.last 144 rfl dX9_operate_143 w5 x10 (EV.nm (fun σ11 e12 => ?_))
    have h := h σ11 e12
    have w13 := tr_hs (hs_setJ_of e12) w2
    have w14 := tr_hs (hs_setJ_of e12) w5
    have g15 := tr_gr (gr_setJ_of e12) g4
    refine EV.iinc 147 rfl [some (.ref v0), none, some (.int v2), none, some (.int (v4 + 1))] (v := 1) (by decide) (by decide) rfl rfl dX9_operate_144 ?_
    refine EV.goto 114 (by decide) dX9_operate_147 ?_
    exact h
theorem gX9_joinRows_0 {Γ : Gm} {d : Nat} {σ : AH} {Q : Oc → AH → Prop} {v0 : Nat} {v1 : Int32} {v2 : Int32} (h : hs σ v0 = some (7, 27) ∧ ∃ t2 : Nat, gr σ v0 15 = some t2 ∧ ∃ t4 : Nat, gr σ v0 13 = some t4 ∧ CV Γ d MX9_countSubsets [.ref t2, .int v1, .ref t4] σ (fun σ6 => hs σ6 v0 = some (7, 27) ∧ ∃ t9 : Nat, gr σ6 v0 15 = some t9 ∧ ∃ t11 : Nat, gr σ6 v0 14 = some t11 ∧ CV Γ d MX9_countSubsets [.ref t9, .int v2, .ref t11] σ6 (fun σ13 => EV Γ MX9_joinRows d 26 [some (.ref v0), none, none, some (.int 0), none] [] σ13 Q) (fun _ _ => False)) (fun _ _ => False)) : EV Γ MX9_joinRows d 0 [some (.ref v0), some (.int v1), some (.int v2), none, none] [] σ Q := by
  refine EV.aload_n 1 rfl 0 rfl rfl dX9_joinRows_0 ?_
  obtain ⟨w1, h⟩ := h
  obtain ⟨t2, g3, h⟩ := h
  refine EV.getR 4 rfl fl_X9_41 rfl dX9_joinRows_1 w1 g3 ?_
  refine EV.iload_n 5 rfl 1 rfl rfl dX9_joinRows_4 ?_
  refine EV.aload_n 6 rfl 0 rfl rfl dX9_joinRows_5 ?_
  obtain ⟨t4, g5, h⟩ := h
  refine EV.getR 9 rfl fl_X9_35 rfl dX9_joinRows_6 w1 g5 ?_
  refine EV.cS rfl lk_X9_94 rfl (vs := [.ref t2, .int v1, .ref t4]) (st := []) rfl rfl (Nat.le_of_ble_eq_true rfl) dX9_joinRows_9 h (fun v σ6 h => ?_)
  obtain ⟨rfl, h⟩ := h
  show EV Γ MX9_joinRows d 12 [some (.ref v0), some (.int v1), some (.int v2), none, none] [] σ6 Q
  refine EV.aload_n 13 rfl 0 rfl rfl dX9_joinRows_12 ?_
  obtain ⟨w8, h⟩ := h
  obtain ⟨t9, g10, h⟩ := h
  refine EV.getR 16 rfl fl_X9_41 rfl dX9_joinRows_13 w8 g10 ?_
  refine EV.iload_n 17 rfl 2 rfl rfl dX9_joinRows_16 ?_
  refine EV.aload_n 18 rfl 0 rfl rfl dX9_joinRows_17 ?_
  obtain ⟨t11, g12, h⟩ := h
  refine EV.getR 21 rfl fl_X9_38 rfl dX9_joinRows_18 w8 g12 ?_
  refine EV.cS rfl lk_X9_94 rfl (vs := [.ref t9, .int v2, .ref t11]) (st := []) rfl rfl (Nat.le_of_ble_eq_true rfl) dX9_joinRows_21 h (fun v σ13 h => ?_)
  obtain ⟨rfl, h⟩ := h
  show EV Γ MX9_joinRows d 24 [some (.ref v0), some (.int v1), some (.int v2), none, none] [] σ13 Q
  refine EV.iconst 25 rfl dX9_joinRows_24 (v := 0) (by decide) ?_
  refine EV.istore_n 26 rfl 3 [some (.ref v0), some (.int v1), some (.int v2), some (.int 0), none] rfl (by decide) rfl dX9_joinRows_25 ?_
  refine EV.mask [true, false, false, true, false] (L' := [some (.ref v0), none, none, some (.int 0), none]) rfl ?_
  exact h
theorem eX9_joinRows {Γ : Gm} {d : Nat} {σ : AH} {Q : Oc → AH → Prop} {v0 : Nat} {v1 : Int32} {v2 : Int32} (h : hs σ v0 = some (7, 27) ∧ ∃ t2 : Nat, gr σ v0 15 = some t2 ∧ ∃ t4 : Nat, gr σ v0 13 = some t4 ∧ CV Γ d MX9_countSubsets [.ref t2, .int v1, .ref t4] σ (fun σ6 => hs σ6 v0 = some (7, 27) ∧ ∃ t9 : Nat, gr σ6 v0 15 = some t9 ∧ ∃ t11 : Nat, gr σ6 v0 14 = some t11 ∧ CV Γ d MX9_countSubsets [.ref t9, .int v2, .ref t11] σ6 (fun σ13 => EV Γ MX9_joinRows d 26 [some (.ref v0), none, none, some (.int 0), none] [] σ13 Q) (fun _ _ => False)) (fun _ _ => False)) : RUN Γ d MX9_joinRows [.ref v0, .int v1, .int v2] σ Q :=
  EV.enter [some (.ref v0), some (.int v1), some (.int v2), none, none] rfl (by decide +kernel) (Nat.le_of_ble_eq_true rfl) rfl (gX9_joinRows_0 h)
theorem gX9_joinRows_26 {Γ : Gm} {d : Nat} {σ : AH} {Q : Oc → AH → Prop} {v0 : Nat} {v3 : Int32} (h : ((4096 ≤ v3 → EV Γ MX9_joinRows d 56 [some (.ref v0), none, none, some (.int 0), none] [] σ Q) ∧ (¬ 4096 ≤ v3 → hs σ v0 = some (7, 27) ∧ ∃ t3 : Nat, gr σ v0 13 = some t3 ∧ ∃ n6 : Nat, hs σ t3 = some (23, n6) ∧ ∃ j7 : Nat, IX v3 n6 j7 ∧ ∃ t9 : Nat, gr σ v0 14 = some t9 ∧ ∃ n12 : Nat, hs σ t9 = some (23, n12) ∧ ∃ j13 : Nat, IX v3 n12 j13 ∧ ∀ σ15 : AH, σ15 = setJ σ t3 j7 ((gj σ t3 j7) * (gj σ t9 j13)) → EV Γ MX9_joinRows d 26 [some (.ref v0), none, none, some (.int (v3 + 1)), none] [] σ15 Q))) : EV Γ MX9_joinRows d 26 [some (.ref v0), none, none, some (.int v3), none] [] σ Q := by
  refine EV.iload_n 27 rfl 3 rfl rfl dX9_joinRows_26 ?_
  refine EV.sipush 30 rfl dX9_joinRows_27 (v := 4096) (by decide) ?_
  refine EV.icmp_ge 33 54 rfl (by decide) dX9_joinRows_30 (fun c1 => ?_) (fun c1 => ?_)
  · have h := h.1 c1
    refine EV.iconst 55 rfl dX9_joinRows_54 (v := 0) (by decide) ?_
    refine EV.istore_n 56 rfl 3 [some (.ref v0), none, none, some (.int 0), none] rfl (by decide) rfl dX9_joinRows_55 ?_
    exact h
  · have h := h.2 c1
    refine EV.aload_n 34 rfl 0 rfl rfl dX9_joinRows_33 ?_
    obtain ⟨w2, h⟩ := h
    obtain ⟨t3, g4, h⟩ := h
    refine EV.getR 37 rfl fl_X9_35 rfl dX9_joinRows_34 w2 g4 ?_
    refine EV.iload_n 38 rfl 3 rfl rfl dX9_joinRows_37 ?_
    refine EV.dup2 39 rfl dX9_joinRows_38 rfl rfl ?_
    obtain ⟨n6, w5, h⟩ := h
    obtain ⟨j7, x8, h⟩ := h
    refine EV.lald 40 rfl dX9_joinRows_39 w5 x8 ?_
    refine EV.aload_n 41 rfl 0 rfl rfl dX9_joinRows_40 ?_
    obtain ⟨t9, g10, h⟩ := h
    refine EV.getR 44 rfl fl_X9_38 rfl dX9_joinRows_41 w2 g10 ?_
    refine EV.iload_n 45 rfl 3 rfl rfl dX9_joinRows_44 ?_
    obtain ⟨n12, w11, h⟩ := h
    obtain ⟨j13, x14, h⟩ := h
    refine EV.lald 46 rfl dX9_joinRows_45 w11 x14 ?_
    refine EV.lmul 47 rfl dX9_joinRows_46 ?_
    refine EV.last 48 rfl dX9_joinRows_47 w5 x8 (EV.nm (fun σ15 e16 => ?_))
    have h := h σ15 e16
    have w17 := tr_hs (hs_setJ_of e16) w2
    have w18 := tr_hs (hs_setJ_of e16) w5
    have w19 := tr_hs (hs_setJ_of e16) w11
    have g20 := tr_gr (gr_setJ_of e16) g4
    have g21 := tr_gr (gr_setJ_of e16) g10
    refine EV.iinc 51 rfl [some (.ref v0), none, none, some (.int (v3 + 1)), none] (v := 1) (by decide) (by decide) rfl rfl dX9_joinRows_48 ?_
    refine EV.goto 26 (by decide) dX9_joinRows_51 ?_
    exact h
theorem gX9_joinRows_56 {Γ : Gm} {d : Nat} {σ : AH} {Q : Oc → AH → Prop} {v0 : Nat} {v3 : Int32} (h : ((12 ≤ v3 → EV Γ MX9_joinRows d 117 [some (.ref v0), none, none, some (.int 0), none] [] σ Q) ∧ (¬ 12 ≤ v3 → EV Γ MX9_joinRows d 67 [some (.ref v0), none, none, some (.int v3), some (.int 4095)] [] σ Q))) : EV Γ MX9_joinRows d 56 [some (.ref v0), none, none, some (.int v3), none] [] σ Q := by
  refine EV.iload_n 57 rfl 3 rfl rfl dX9_joinRows_56 ?_
  refine EV.bipush 59 rfl dX9_joinRows_57 (v := 12) (by decide) ?_
  refine EV.icmp_ge 62 115 rfl (by decide) dX9_joinRows_59 (fun c1 => ?_) (fun c1 => ?_)
  · have h := h.1 c1
    refine EV.iconst 116 rfl dX9_joinRows_115 (v := 0) (by decide) ?_
    refine EV.istore_n 117 rfl 3 [some (.ref v0), none, none, some (.int 0), none] rfl (by decide) rfl dX9_joinRows_116 ?_
    exact h
  · have h := h.2 c1
    refine EV.sipush 65 rfl dX9_joinRows_62 (v := 4095) (by decide) ?_
    refine EV.istore 67 rfl [some (.ref v0), none, none, some (.int v3), some (.int 4095)] (by decide) rfl dX9_joinRows_65 ?_
    exact h
theorem gX9_joinRows_67 {Γ : Gm} {d : Nat} {σ : AH} {Q : Oc → AH → Prop} {v0 : Nat} {v3 : Int32} {v4 : Int32} (h : ((v4 < 0 → EV Γ MX9_joinRows d 56 [some (.ref v0), none, none, some (.int (v3 + 1)), none] [] σ Q) ∧ (¬ v4 < 0 → ((((v4 >>> (v3 &&& 31)) &&& 1) ≠ 1 → EV Γ MX9_joinRows d 67 [some (.ref v0), none, none, some (.int v3), some (.int (v4 + (-1)))] [] σ Q) ∧ (((v4 >>> (v3 &&& 31)) &&& 1) = 1 → hs σ v0 = some (7, 27) ∧ ∃ t4 : Nat, gr σ v0 13 = some t4 ∧ ∃ n7 : Nat, hs σ t4 = some (23, n7) ∧ ∃ j8 : Nat, IX v4 n7 j8 ∧ ∃ j10 : Nat, IX (v4 - ((1 : Int32) <<< (v3 &&& 31))) n7 j10 ∧ ∀ σ12 : AH, σ12 = setJ σ t4 j8 ((gj σ t4 j8) - (gj σ t4 j10)) → EV Γ MX9_joinRows d 67 [some (.ref v0), none, none, some (.int v3), some (.int (v4 + (-1)))] [] σ12 Q))))) : EV Γ MX9_joinRows d 67 [some (.ref v0), none, none, some (.int v3), some (.int v4)] [] σ Q := by
  refine EV.iload 69 rfl rfl dX9_joinRows_67 ?_
  refine EV.if_lt 72 109 rfl (by decide) dX9_joinRows_69 (fun c1 => ?_) (fun c1 => ?_)
  · have h := h.1 c1
    refine EV.iinc 112 rfl [some (.ref v0), none, none, some (.int (v3 + 1)), some (.int v4)] (v := 1) (by decide) (by decide) rfl rfl dX9_joinRows_109 ?_
    refine EV.goto 56 (by decide) dX9_joinRows_112 ?_
    refine EV.mask [true, false, false, true, false] (L' := [some (.ref v0), none, none, some (.int (v3 + 1)), none]) rfl ?_
    exact h
  · have h := h.2 c1
    refine EV.iload 74 rfl rfl dX9_joinRows_72 ?_
    refine EV.iload_n 75 rfl 3 rfl rfl dX9_joinRows_74 ?_
    refine EV.ishr 76 rfl dX9_joinRows_75 ?_
    refine EV.iconst 77 rfl dX9_joinRows_76 (v := 1) (by decide) ?_
    refine EV.iand 78 rfl dX9_joinRows_77 ?_
    refine EV.iconst 79 rfl dX9_joinRows_78 (v := 1) (by decide) ?_
    refine EV.icmp_ne 82 103 rfl (by decide) dX9_joinRows_79 (fun c2 => ?_) (fun c2 => ?_)
    · have h := h.1 c2
      refine EV.iinc 106 rfl [some (.ref v0), none, none, some (.int v3), some (.int (v4 + (-1)))] (v := (-1)) (by decide) (by decide) rfl rfl dX9_joinRows_103 ?_
      refine EV.goto 67 (by decide) dX9_joinRows_106 ?_
      exact h
    · have h := h.2 c2
      refine EV.aload_n 83 rfl 0 rfl rfl dX9_joinRows_82 ?_
      obtain ⟨w3, h⟩ := h
      obtain ⟨t4, g5, h⟩ := h
      refine EV.getR 86 rfl fl_X9_35 rfl dX9_joinRows_83 w3 g5 ?_
      refine EV.iload 88 rfl rfl dX9_joinRows_86 ?_
      refine EV.dup2 89 rfl dX9_joinRows_88 rfl rfl ?_
      obtain ⟨n7, w6, h⟩ := h
      obtain ⟨j8, x9, h⟩ := h
      refine EV.lald 90 rfl dX9_joinRows_89 w6 x9 ?_
      refine EV.aload_n 91 rfl 0 rfl rfl dX9_joinRows_90 ?_
      refine EV.getR 94 rfl fl_X9_35 rfl dX9_joinRows_91 w3 g5 ?_
      refine EV.iload 96 rfl rfl dX9_joinRows_94 ?_
      refine EV.iconst 97 rfl dX9_joinRows_96 (v := 1) (by decide) ?_
      refine EV.iload_n 98 rfl 3 rfl rfl dX9_joinRows_97 ?_
      refine EV.ishl 99 rfl dX9_joinRows_98 ?_
      refine EV.isub 100 rfl dX9_joinRows_99 ?_
      obtain ⟨j10, x11, h⟩ := h
      refine EV.lald 101 rfl dX9_joinRows_100 w6 x11 ?_
      refine EV.lsub 102 rfl dX9_joinRows_101 ?_
      refine EV.last 103 rfl dX9_joinRows_102 w6 x9 (EV.nm (fun σ12 e13 => ?_))
      have h := h σ12 e13
      have w14 := tr_hs (hs_setJ_of e13) w3
      have w15 := tr_hs (hs_setJ_of e13) w6
      have g16 := tr_gr (gr_setJ_of e13) g5
      refine EV.iinc 106 rfl [some (.ref v0), none, none, some (.int v3), some (.int (v4 + (-1)))] (v := (-1)) (by decide) (by decide) rfl rfl dX9_joinRows_103 ?_
      refine EV.goto 67 (by decide) dX9_joinRows_106 ?_
      exact h
theorem gX9_joinRows_117 {Γ : Gm} {d : Nat} {σ : AH} {Q : Oc → AH → Prop} {v0 : Nat} {v3 : Int32} (h : ((4096 ≤ v3 → Q (.inl none) σ) ∧ (¬ 4096 ≤ v3 → hs σ v0 = some (7, 27) ∧ ∃ t3 : Nat, gr σ v0 13 = some t3 ∧ ∃ n6 : Nat, hs σ t3 = some (23, n6) ∧ ∃ j7 : Nat, IX v3 n6 j7 ∧ (((lg_cmp (gj σ t3 j7) 0) ≤ 0 → EV Γ MX9_joinRows d 117 [some (.ref v0), none, none, some (.int (v3 + 1)), none] [] σ Q) ∧ (¬ (lg_cmp (gj σ t3 j7) 0) ≤ 0 → ∃ t10 : Nat, gr σ v0 15 = some t10 ∧ CV Γ d MX9_put [.ref t10, .int 108, .int v3] σ (fun σ12 => EV Γ MX9_joinRows d 117 [some (.ref v0), none, none, some (.int (v3 + 1)), none] [] σ12 Q) (fun _ _ => False)))))) : EV Γ MX9_joinRows d 117 [some (.ref v0), none, none, some (.int v3), none] [] σ Q := by
  refine EV.iload_n 118 rfl 3 rfl rfl dX9_joinRows_117 ?_
  refine EV.sipush 121 rfl dX9_joinRows_118 (v := 4096) (by decide) ?_
  refine EV.icmp_ge 124 151 rfl (by decide) dX9_joinRows_121 (fun c1 => ?_) (fun c1 => ?_)
  · have h := h.1 c1
    exact EV.vret rfl dX9_joinRows_151 h
  · have h := h.2 c1
    refine EV.aload_n 125 rfl 0 rfl rfl dX9_joinRows_124 ?_
    obtain ⟨w2, h⟩ := h
    obtain ⟨t3, g4, h⟩ := h
    refine EV.getR 128 rfl fl_X9_35 rfl dX9_joinRows_125 w2 g4 ?_
    refine EV.iload_n 129 rfl 3 rfl rfl dX9_joinRows_128 ?_
    obtain ⟨n6, w5, h⟩ := h
    obtain ⟨j7, x8, h⟩ := h
    refine EV.lald 130 rfl dX9_joinRows_129 w5 x8 ?_
    refine EV.lconst 131 rfl dX9_joinRows_130 (v := 0) (by decide) ?_
    refine EV.lcmp 132 rfl dX9_joinRows_131 ?_
    refine EV.if_le 135 145 rfl (by decide) dX9_joinRows_132 (fun c9 => ?_) (fun c9 => ?_)
    · have h := h.1 c9
      refine EV.iinc 148 rfl [some (.ref v0), none, none, some (.int (v3 + 1)), none] (v := 1) (by decide) (by decide) rfl rfl dX9_joinRows_145 ?_
      refine EV.goto 117 (by decide) dX9_joinRows_148 ?_
      exact h
    · have h := h.2 c9
      refine EV.aload_n 136 rfl 0 rfl rfl dX9_joinRows_135 ?_
      obtain ⟨t10, g11, h⟩ := h
      refine EV.getR 139 rfl fl_X9_41 rfl dX9_joinRows_136 w2 g11 ?_
      refine EV.bipush 141 rfl dX9_joinRows_139 (v := 108) (by decide) ?_
      refine EV.iload_n 142 rfl 3 rfl rfl dX9_joinRows_141 ?_
      refine EV.cS rfl lk_X9_98 rfl (vs := [.ref t10, .int 108, .int v3]) (st := []) rfl rfl (Nat.le_of_ble_eq_true rfl) dX9_joinRows_142 h (fun v σ12 h => ?_)
      obtain ⟨rfl, h⟩ := h
      show EV Γ MX9_joinRows d 145 [some (.ref v0), none, none, some (.int v3), none] [] σ12 Q
      refine EV.iinc 148 rfl [some (.ref v0), none, none, some (.int (v3 + 1)), none] (v := 1) (by decide) (by decide) rfl rfl dX9_joinRows_145 ?_
      refine EV.goto 117 (by decide) dX9_joinRows_148 ?_
      exact h
theorem gX9_meetRows_0 {Γ : Gm} {d : Nat} {σ : AH} {Q : Oc → AH → Prop} {v0 : Nat} {v1 : Int32} {v2 : Int32} (h : hs σ v0 = some (7, 27) ∧ ∃ t2 : Nat, gr σ v0 15 = some t2 ∧ ∃ t4 : Nat, gr σ v0 13 = some t4 ∧ CV Γ d MX9_countSupersets [.ref t2, .int v1, .ref t4] σ (fun σ6 => hs σ6 v0 = some (7, 27) ∧ ∃ t9 : Nat, gr σ6 v0 15 = some t9 ∧ ∃ t11 : Nat, gr σ6 v0 14 = some t11 ∧ CV Γ d MX9_countSupersets [.ref t9, .int v2, .ref t11] σ6 (fun σ13 => EV Γ MX9_meetRows d 26 [some (.ref v0), none, none, some (.int 0), none] [] σ13 Q) (fun _ _ => False)) (fun _ _ => False)) : EV Γ MX9_meetRows d 0 [some (.ref v0), some (.int v1), some (.int v2), none, none] [] σ Q := by
  refine EV.aload_n 1 rfl 0 rfl rfl dX9_meetRows_0 ?_
  obtain ⟨w1, h⟩ := h
  obtain ⟨t2, g3, h⟩ := h
  refine EV.getR 4 rfl fl_X9_41 rfl dX9_meetRows_1 w1 g3 ?_
  refine EV.iload_n 5 rfl 1 rfl rfl dX9_meetRows_4 ?_
  refine EV.aload_n 6 rfl 0 rfl rfl dX9_meetRows_5 ?_
  obtain ⟨t4, g5, h⟩ := h
  refine EV.getR 9 rfl fl_X9_35 rfl dX9_meetRows_6 w1 g5 ?_
  refine EV.cS rfl lk_X9_102 rfl (vs := [.ref t2, .int v1, .ref t4]) (st := []) rfl rfl (Nat.le_of_ble_eq_true rfl) dX9_meetRows_9 h (fun v σ6 h => ?_)
  obtain ⟨rfl, h⟩ := h
  show EV Γ MX9_meetRows d 12 [some (.ref v0), some (.int v1), some (.int v2), none, none] [] σ6 Q
  refine EV.aload_n 13 rfl 0 rfl rfl dX9_meetRows_12 ?_
  obtain ⟨w8, h⟩ := h
  obtain ⟨t9, g10, h⟩ := h
  refine EV.getR 16 rfl fl_X9_41 rfl dX9_meetRows_13 w8 g10 ?_
  refine EV.iload_n 17 rfl 2 rfl rfl dX9_meetRows_16 ?_
  refine EV.aload_n 18 rfl 0 rfl rfl dX9_meetRows_17 ?_
  obtain ⟨t11, g12, h⟩ := h
  refine EV.getR 21 rfl fl_X9_38 rfl dX9_meetRows_18 w8 g12 ?_
  refine EV.cS rfl lk_X9_102 rfl (vs := [.ref t9, .int v2, .ref t11]) (st := []) rfl rfl (Nat.le_of_ble_eq_true rfl) dX9_meetRows_21 h (fun v σ13 h => ?_)
  obtain ⟨rfl, h⟩ := h
  show EV Γ MX9_meetRows d 24 [some (.ref v0), some (.int v1), some (.int v2), none, none] [] σ13 Q
  refine EV.iconst 25 rfl dX9_meetRows_24 (v := 0) (by decide) ?_
  refine EV.istore_n 26 rfl 3 [some (.ref v0), some (.int v1), some (.int v2), some (.int 0), none] rfl (by decide) rfl dX9_meetRows_25 ?_
  refine EV.mask [true, false, false, true, false] (L' := [some (.ref v0), none, none, some (.int 0), none]) rfl ?_
  exact h
theorem eX9_meetRows {Γ : Gm} {d : Nat} {σ : AH} {Q : Oc → AH → Prop} {v0 : Nat} {v1 : Int32} {v2 : Int32} (h : hs σ v0 = some (7, 27) ∧ ∃ t2 : Nat, gr σ v0 15 = some t2 ∧ ∃ t4 : Nat, gr σ v0 13 = some t4 ∧ CV Γ d MX9_countSupersets [.ref t2, .int v1, .ref t4] σ (fun σ6 => hs σ6 v0 = some (7, 27) ∧ ∃ t9 : Nat, gr σ6 v0 15 = some t9 ∧ ∃ t11 : Nat, gr σ6 v0 14 = some t11 ∧ CV Γ d MX9_countSupersets [.ref t9, .int v2, .ref t11] σ6 (fun σ13 => EV Γ MX9_meetRows d 26 [some (.ref v0), none, none, some (.int 0), none] [] σ13 Q) (fun _ _ => False)) (fun _ _ => False)) : RUN Γ d MX9_meetRows [.ref v0, .int v1, .int v2] σ Q :=
  EV.enter [some (.ref v0), some (.int v1), some (.int v2), none, none] rfl (by decide +kernel) (Nat.le_of_ble_eq_true rfl) rfl (gX9_meetRows_0 h)
theorem gX9_meetRows_26 {Γ : Gm} {d : Nat} {σ : AH} {Q : Oc → AH → Prop} {v0 : Nat} {v3 : Int32} (h : ((4096 ≤ v3 → EV Γ MX9_meetRows d 56 [some (.ref v0), none, none, some (.int 0), none] [] σ Q) ∧ (¬ 4096 ≤ v3 → hs σ v0 = some (7, 27) ∧ ∃ t3 : Nat, gr σ v0 13 = some t3 ∧ ∃ n6 : Nat, hs σ t3 = some (23, n6) ∧ ∃ j7 : Nat, IX v3 n6 j7 ∧ ∃ t9 : Nat, gr σ v0 14 = some t9 ∧ ∃ n12 : Nat, hs σ t9 = some (23, n12) ∧ ∃ j13 : Nat, IX v3 n12 j13 ∧ ∀ σ15 : AH, σ15 = setJ σ t3 j7 ((gj σ t3 j7) * (gj σ t9 j13)) → EV Γ MX9_meetRows d 26 [some (.ref v0), none, none, some (.int (v3 + 1)), none] [] σ15 Q))) : EV Γ MX9_meetRows d 26 [some (.ref v0), none, none, some (.int v3), none] [] σ Q := by
  refine EV.iload_n 27 rfl 3 rfl rfl dX9_meetRows_26 ?_
  refine EV.sipush 30 rfl dX9_meetRows_27 (v := 4096) (by decide) ?_
  refine EV.icmp_ge 33 54 rfl (by decide) dX9_meetRows_30 (fun c1 => ?_) (fun c1 => ?_)
  · have h := h.1 c1
    refine EV.iconst 55 rfl dX9_meetRows_54 (v := 0) (by decide) ?_
    refine EV.istore_n 56 rfl 3 [some (.ref v0), none, none, some (.int 0), none] rfl (by decide) rfl dX9_meetRows_55 ?_
    exact h
  · have h := h.2 c1
    refine EV.aload_n 34 rfl 0 rfl rfl dX9_meetRows_33 ?_
    obtain ⟨w2, h⟩ := h
    obtain ⟨t3, g4, h⟩ := h
    refine EV.getR 37 rfl fl_X9_35 rfl dX9_meetRows_34 w2 g4 ?_
    refine EV.iload_n 38 rfl 3 rfl rfl dX9_meetRows_37 ?_
    refine EV.dup2 39 rfl dX9_meetRows_38 rfl rfl ?_
    obtain ⟨n6, w5, h⟩ := h
    obtain ⟨j7, x8, h⟩ := h
    refine EV.lald 40 rfl dX9_meetRows_39 w5 x8 ?_
    refine EV.aload_n 41 rfl 0 rfl rfl dX9_meetRows_40 ?_
    obtain ⟨t9, g10, h⟩ := h
    refine EV.getR 44 rfl fl_X9_38 rfl dX9_meetRows_41 w2 g10 ?_
    refine EV.iload_n 45 rfl 3 rfl rfl dX9_meetRows_44 ?_
    obtain ⟨n12, w11, h⟩ := h
    obtain ⟨j13, x14, h⟩ := h
    refine EV.lald 46 rfl dX9_meetRows_45 w11 x14 ?_
    refine EV.lmul 47 rfl dX9_meetRows_46 ?_
    refine EV.last 48 rfl dX9_meetRows_47 w5 x8 (EV.nm (fun σ15 e16 => ?_))
    have h := h σ15 e16
    have w17 := tr_hs (hs_setJ_of e16) w2
    have w18 := tr_hs (hs_setJ_of e16) w5
    have w19 := tr_hs (hs_setJ_of e16) w11
    have g20 := tr_gr (gr_setJ_of e16) g4
    have g21 := tr_gr (gr_setJ_of e16) g10
    refine EV.iinc 51 rfl [some (.ref v0), none, none, some (.int (v3 + 1)), none] (v := 1) (by decide) (by decide) rfl rfl dX9_meetRows_48 ?_
    refine EV.goto 26 (by decide) dX9_meetRows_51 ?_
    exact h
theorem gX9_meetRows_56 {Γ : Gm} {d : Nat} {σ : AH} {Q : Oc → AH → Prop} {v0 : Nat} {v3 : Int32} (h : ((12 ≤ v3 → EV Γ MX9_meetRows d 117 [some (.ref v0), none, none, some (.int 0), none] [] σ Q) ∧ (¬ 12 ≤ v3 → EV Γ MX9_meetRows d 65 [some (.ref v0), none, none, some (.int v3), some (.int 0)] [] σ Q))) : EV Γ MX9_meetRows d 56 [some (.ref v0), none, none, some (.int v3), none] [] σ Q := by
  refine EV.iload_n 57 rfl 3 rfl rfl dX9_meetRows_56 ?_
  refine EV.bipush 59 rfl dX9_meetRows_57 (v := 12) (by decide) ?_
  refine EV.icmp_ge 62 115 rfl (by decide) dX9_meetRows_59 (fun c1 => ?_) (fun c1 => ?_)
  · have h := h.1 c1
    refine EV.iconst 116 rfl dX9_meetRows_115 (v := 0) (by decide) ?_
    refine EV.istore_n 117 rfl 3 [some (.ref v0), none, none, some (.int 0), none] rfl (by decide) rfl dX9_meetRows_116 ?_
    exact h
  · have h := h.2 c1
    refine EV.iconst 63 rfl dX9_meetRows_62 (v := 0) (by decide) ?_
    refine EV.istore 65 rfl [some (.ref v0), none, none, some (.int v3), some (.int 0)] (by decide) rfl dX9_meetRows_63 ?_
    exact h
theorem gX9_meetRows_65 {Γ : Gm} {d : Nat} {σ : AH} {Q : Oc → AH → Prop} {v0 : Nat} {v3 : Int32} {v4 : Int32} (h : ((4096 ≤ v4 → EV Γ MX9_meetRows d 56 [some (.ref v0), none, none, some (.int (v3 + 1)), none] [] σ Q) ∧ (¬ 4096 ≤ v4 → ((((v4 >>> (v3 &&& 31)) &&& 1) ≠ 0 → EV Γ MX9_meetRows d 65 [some (.ref v0), none, none, some (.int v3), some (.int (v4 + 1))] [] σ Q) ∧ (((v4 >>> (v3 &&& 31)) &&& 1) = 0 → hs σ v0 = some (7, 27) ∧ ∃ t4 : Nat, gr σ v0 13 = some t4 ∧ ∃ n7 : Nat, hs σ t4 = some (23, n7) ∧ ∃ j8 : Nat, IX v4 n7 j8 ∧ ∃ j10 : Nat, IX (v4 + ((1 : Int32) <<< (v3 &&& 31))) n7 j10 ∧ ∀ σ12 : AH, σ12 = setJ σ t4 j8 ((gj σ t4 j8) - (gj σ t4 j10)) → EV Γ MX9_meetRows d 65 [some (.ref v0), none, none, some (.int v3), some (.int (v4 + 1))] [] σ12 Q))))) : EV Γ MX9_meetRows d 65 [some (.ref v0), none, none, some (.int v3), some (.int v4)] [] σ Q := by
  refine EV.iload 67 rfl rfl dX9_meetRows_65 ?_
  refine EV.sipush 70 rfl dX9_meetRows_67 (v := 4096) (by decide) ?_
  refine EV.icmp_ge 73 109 rfl (by decide) dX9_meetRows_70 (fun c1 => ?_) (fun c1 => ?_)
  · have h := h.1 c1
    refine EV.iinc 112 rfl [some (.ref v0), none, none, some (.int (v3 + 1)), some (.int v4)] (v := 1) (by decide) (by decide) rfl rfl dX9_meetRows_109 ?_
    refine EV.goto 56 (by decide) dX9_meetRows_112 ?_
    refine EV.mask [true, false, false, true, false] (L' := [some (.ref v0), none, none, some (.int (v3 + 1)), none]) rfl ?_
    exact h
  · have h := h.2 c1
    refine EV.iload 75 rfl rfl dX9_meetRows_73 ?_
    refine EV.iload_n 76 rfl 3 rfl rfl dX9_meetRows_75 ?_
    refine EV.ishr 77 rfl dX9_meetRows_76 ?_
    refine EV.iconst 78 rfl dX9_meetRows_77 (v := 1) (by decide) ?_
    refine EV.iand 79 rfl dX9_meetRows_78 ?_
    refine EV.if_ne 82 103 rfl (by decide) dX9_meetRows_79 (fun c2 => ?_) (fun c2 => ?_)
    · have h := h.1 c2
      refine EV.iinc 106 rfl [some (.ref v0), none, none, some (.int v3), some (.int (v4 + 1))] (v := 1) (by decide) (by decide) rfl rfl dX9_meetRows_103 ?_
      refine EV.goto 65 (by decide) dX9_meetRows_106 ?_
      exact h
    · have h := h.2 c2
      refine EV.aload_n 83 rfl 0 rfl rfl dX9_meetRows_82 ?_
      obtain ⟨w3, h⟩ := h
      obtain ⟨t4, g5, h⟩ := h
      refine EV.getR 86 rfl fl_X9_35 rfl dX9_meetRows_83 w3 g5 ?_
      refine EV.iload 88 rfl rfl dX9_meetRows_86 ?_
      refine EV.dup2 89 rfl dX9_meetRows_88 rfl rfl ?_
      obtain ⟨n7, w6, h⟩ := h
      obtain ⟨j8, x9, h⟩ := h
      refine EV.lald 90 rfl dX9_meetRows_89 w6 x9 ?_
      refine EV.aload_n 91 rfl 0 rfl rfl dX9_meetRows_90 ?_
      refine EV.getR 94 rfl fl_X9_35 rfl dX9_meetRows_91 w3 g5 ?_
      refine EV.iload 96 rfl rfl dX9_meetRows_94 ?_
      refine EV.iconst 97 rfl dX9_meetRows_96 (v := 1) (by decide) ?_
      refine EV.iload_n 98 rfl 3 rfl rfl dX9_meetRows_97 ?_
      refine EV.ishl 99 rfl dX9_meetRows_98 ?_
      refine EV.iadd 100 rfl dX9_meetRows_99 ?_
      obtain ⟨j10, x11, h⟩ := h
      refine EV.lald 101 rfl dX9_meetRows_100 w6 x11 ?_
      refine EV.lsub 102 rfl dX9_meetRows_101 ?_
      refine EV.last 103 rfl dX9_meetRows_102 w6 x9 (EV.nm (fun σ12 e13 => ?_))
      have h := h σ12 e13
      have w14 := tr_hs (hs_setJ_of e13) w3
      have w15 := tr_hs (hs_setJ_of e13) w6
      have g16 := tr_gr (gr_setJ_of e13) g5
      refine EV.iinc 106 rfl [some (.ref v0), none, none, some (.int v3), some (.int (v4 + 1))] (v := 1) (by decide) (by decide) rfl rfl dX9_meetRows_103 ?_
      refine EV.goto 65 (by decide) dX9_meetRows_106 ?_
      exact h
theorem gX9_meetRows_117 {Γ : Gm} {d : Nat} {σ : AH} {Q : Oc → AH → Prop} {v0 : Nat} {v3 : Int32} (h : ((4096 ≤ v3 → Q (.inl none) σ) ∧ (¬ 4096 ≤ v3 → hs σ v0 = some (7, 27) ∧ ∃ t3 : Nat, gr σ v0 13 = some t3 ∧ ∃ n6 : Nat, hs σ t3 = some (23, n6) ∧ ∃ j7 : Nat, IX v3 n6 j7 ∧ (((lg_cmp (gj σ t3 j7) 0) ≤ 0 → EV Γ MX9_meetRows d 117 [some (.ref v0), none, none, some (.int (v3 + 1)), none] [] σ Q) ∧ (¬ (lg_cmp (gj σ t3 j7) 0) ≤ 0 → ∃ t10 : Nat, gr σ v0 15 = some t10 ∧ CV Γ d MX9_put [.ref t10, .int 108, .int v3] σ (fun σ12 => EV Γ MX9_meetRows d 117 [some (.ref v0), none, none, some (.int (v3 + 1)), none] [] σ12 Q) (fun _ _ => False)))))) : EV Γ MX9_meetRows d 117 [some (.ref v0), none, none, some (.int v3), none] [] σ Q := by
  refine EV.iload_n 118 rfl 3 rfl rfl dX9_meetRows_117 ?_
  refine EV.sipush 121 rfl dX9_meetRows_118 (v := 4096) (by decide) ?_
  refine EV.icmp_ge 124 151 rfl (by decide) dX9_meetRows_121 (fun c1 => ?_) (fun c1 => ?_)
  · have h := h.1 c1
    exact EV.vret rfl dX9_meetRows_151 h
  · have h := h.2 c1
    refine EV.aload_n 125 rfl 0 rfl rfl dX9_meetRows_124 ?_
    obtain ⟨w2, h⟩ := h
    obtain ⟨t3, g4, h⟩ := h
    refine EV.getR 128 rfl fl_X9_35 rfl dX9_meetRows_125 w2 g4 ?_
    refine EV.iload_n 129 rfl 3 rfl rfl dX9_meetRows_128 ?_
    obtain ⟨n6, w5, h⟩ := h
    obtain ⟨j7, x8, h⟩ := h
    refine EV.lald 130 rfl dX9_meetRows_129 w5 x8 ?_
    refine EV.lconst 131 rfl dX9_meetRows_130 (v := 0) (by decide) ?_
    refine EV.lcmp 132 rfl dX9_meetRows_131 ?_
    refine EV.if_le 135 145 rfl (by decide) dX9_meetRows_132 (fun c9 => ?_) (fun c9 => ?_)
    · have h := h.1 c9
      refine EV.iinc 148 rfl [some (.ref v0), none, none, some (.int (v3 + 1)), none] (v := 1) (by decide) (by decide) rfl rfl dX9_meetRows_145 ?_
      refine EV.goto 117 (by decide) dX9_meetRows_148 ?_
      exact h
    · have h := h.2 c9
      refine EV.aload_n 136 rfl 0 rfl rfl dX9_meetRows_135 ?_
      obtain ⟨t10, g11, h⟩ := h
      refine EV.getR 139 rfl fl_X9_41 rfl dX9_meetRows_136 w2 g11 ?_
      refine EV.bipush 141 rfl dX9_meetRows_139 (v := 108) (by decide) ?_
      refine EV.iload_n 142 rfl 3 rfl rfl dX9_meetRows_141 ?_
      refine EV.cS rfl lk_X9_98 rfl (vs := [.ref t10, .int 108, .int v3]) (st := []) rfl rfl (Nat.le_of_ble_eq_true rfl) dX9_meetRows_142 h (fun v σ12 h => ?_)
      obtain ⟨rfl, h⟩ := h
      show EV Γ MX9_meetRows d 145 [some (.ref v0), none, none, some (.int v3), none] [] σ12 Q
      refine EV.iinc 148 rfl [some (.ref v0), none, none, some (.int (v3 + 1)), none] (v := 1) (by decide) (by decide) rfl rfl dX9_meetRows_145 ?_
      refine EV.goto 117 (by decide) dX9_meetRows_148 ?_
      exact h
theorem gX9_divideRows_0 {Γ : Gm} {d : Nat} {σ : AH} {Q : Oc → AH → Prop} {v0 : Nat} {v1 : Int32} {v2 : Int32} (h : EV Γ MX9_divideRows d 2 [some (.ref v0), some (.int v1), some (.int v2), some (.int 0), none, none] [] σ Q) : EV Γ MX9_divideRows d 0 [some (.ref v0), some (.int v1), some (.int v2), none, none, none] [] σ Q := by
  refine EV.iconst 1 rfl dX9_divideRows_0 (v := 0) (by decide) ?_
  refine EV.istore_n 2 rfl 3 [some (.ref v0), some (.int v1), some (.int v2), some (.int 0), none, none] rfl (by decide) rfl dX9_divideRows_1 ?_
  exact h
theorem eX9_divideRows {Γ : Gm} {d : Nat} {σ : AH} {Q : Oc → AH → Prop} {v0 : Nat} {v1 : Int32} {v2 : Int32} (h : EV Γ MX9_divideRows d 2 [some (.ref v0), some (.int v1), some (.int v2), some (.int 0), none, none] [] σ Q) : RUN Γ d MX9_divideRows [.ref v0, .int v1, .int v2] σ Q :=
  EV.enter [some (.ref v0), some (.int v1), some (.int v2), none, none, none] rfl (by decide +kernel) (Nat.le_of_ble_eq_true rfl) rfl (gX9_divideRows_0 h)
theorem gX9_divideRows_2 {Γ : Gm} {d : Nat} {σ : AH} {Q : Oc → AH → Prop} {v0 : Nat} {v1 : Int32} {v2 : Int32} {v3 : Int32} (h : ((4096 ≤ v3 → Q (.inl none) σ) ∧ (¬ 4096 ≤ v3 → EV Γ MX9_divideRows d 15 [some (.ref v0), some (.int v1), some (.int v2), some (.int v3), some (.int 1), some (.int 0)] [] σ Q))) : EV Γ MX9_divideRows d 2 [some (.ref v0), some (.int v1), some (.int v2), some (.int v3), none, none] [] σ Q := by
  refine EV.iload_n 3 rfl 3 rfl rfl dX9_divideRows_2 ?_
  refine EV.sipush 6 rfl dX9_divideRows_3 (v := 4096) (by decide) ?_
  refine EV.icmp_ge 9 97 rfl (by decide) dX9_divideRows_6 (fun c1 => ?_) (fun c1 => ?_)
  · have h := h.1 c1
    exact EV.vret rfl dX9_divideRows_97 h
  · have h := h.2 c1
    refine EV.iconst 10 rfl dX9_divideRows_9 (v := 1) (by decide) ?_
    refine EV.istore 12 rfl [some (.ref v0), some (.int v1), some (.int v2), some (.int v3), some (.int 1), none] (by decide) rfl dX9_divideRows_10 ?_
    refine EV.iconst 13 rfl dX9_divideRows_12 (v := 0) (by decide) ?_
    refine EV.istore 15 rfl [some (.ref v0), some (.int v1), some (.int v2), some (.int v3), some (.int 1), some (.int 0)] (by decide) rfl dX9_divideRows_13 ?_
    exact h
theorem gX9_divideRows_15 {Γ : Gm} {d : Nat} {σ : AH} {Q : Oc → AH → Prop} {v0 : Nat} {v1 : Int32} {v2 : Int32} {v3 : Int32} {v4 : Int32} {v5 : Int32} (h : ((4096 ≤ v5 → EV Γ MX9_divideRows d 76 [some (.ref v0), some (.int v1), some (.int v2), some (.int v3), some (.int v4), none] [] σ Q) ∧ (¬ 4096 ≤ v5 → ((v4 = 0 → EV Γ MX9_divideRows d 76 [some (.ref v0), some (.int v1), some (.int v2), some (.int v3), some (.int v4), none] [] σ Q) ∧ (¬ v4 = 0 → hs σ v0 = some (7, 27) ∧ ∃ t4 : Nat, gr σ v0 15 = some t4 ∧ CI Γ d MX9_has [.ref t4, .int v2, .int v5] σ (fun r7 σ6 => ((r7 = 0 → EV Γ MX9_divideRows d 15 [some (.ref v0), some (.int v1), some (.int v2), some (.int v3), some (.int 1), some (.int (v5 + 1))] [] σ6 Q) ∧ (¬ r7 = 0 → (((v3 &&& v5) ≠ 0 → EV Γ MX9_divideRows d 15 [some (.ref v0), some (.int v1), some (.int v2), some (.int v3), some (.int 0), some (.int (v5 + 1))] [] σ6 Q) ∧ ((v3 &&& v5) = 0 → hs σ6 v0 = some (7, 27) ∧ ∃ t11 : Nat, gr σ6 v0 15 = some t11 ∧ CI Γ d MX9_has [.ref t11, .int v1, .int (v3 ||| v5)] σ6 (fun r14 σ13 => ((r14 = 0 → EV Γ MX9_divideRows d 15 [some (.ref v0), some (.int v1), some (.int v2), some (.int v3), some (.int 0), some (.int (v5 + 1))] [] σ13 Q) ∧ (¬ r14 = 0 → EV Γ MX9_divideRows d 15 [some (.ref v0), some (.int v1), some (.int v2), some (.int v3), some (.int 1), some (.int (v5 + 1))] [] σ13 Q))) (fun _ _ => False)))))) (fun _ _ => False)))))) : EV Γ MX9_divideRows d 15 [some (.ref v0), some (.int v1), some (.int v2), some (.int v3), some (.int v4), some (.int v5)] [] σ Q := by
  refine EV.iload 17 rfl rfl dX9_divideRows_15 ?_
  refine EV.sipush 20 rfl dX9_divideRows_17 (v := 4096) (by decide) ?_
  refine EV.icmp_ge 23 76 rfl (by decide) dX9_divideRows_20 (fun c1 => ?_) (fun c1 => ?_)
  · have h := h.1 c1
    refine EV.mask [true, true, true, true, true, false] (L' := [some (.ref v0), some (.int v1), some (.int v2), some (.int v3), some (.int v4), none]) rfl ?_
    exact h
  · have h := h.2 c1
    refine EV.iload 25 rfl rfl dX9_divideRows_23 ?_
    refine EV.if_eq 28 76 rfl (by decide) dX9_divideRows_25 (fun c2 => ?_) (fun c2 => ?_)
    · have h := h.1 c2
      refine EV.mask [true, true, true, true, true, false] (L' := [some (.ref v0), some (.int v1), some (.int v2), some (.int v3), some (.int v4), none]) rfl ?_
      exact h
    · have h := h.2 c2
      refine EV.aload_n 29 rfl 0 rfl rfl dX9_divideRows_28 ?_
      obtain ⟨w3, h⟩ := h
      obtain ⟨t4, g5, h⟩ := h
      refine EV.getR 32 rfl fl_X9_41 rfl dX9_divideRows_29 w3 g5 ?_
      refine EV.iload_n 33 rfl 2 rfl rfl dX9_divideRows_32 ?_
      refine EV.iload 35 rfl rfl dX9_divideRows_33 ?_
      refine EV.cS rfl lk_X9_65 rfl (vs := [.ref t4, .int v2, .int v5]) (st := []) rfl rfl (Nat.le_of_ble_eq_true rfl) dX9_divideRows_35 h (fun v σ6 h => ?_)
      obtain ⟨r7, rfl, h⟩ := h
      show EV Γ MX9_divideRows d 38 [some (.ref v0), some (.int v1), some (.int v2), some (.int v3), some (.int v4), some (.int v5)] [.int r7] σ6 Q
      refine EV.if_eq 41 63 rfl (by decide) dX9_divideRows_38 (fun c8 => ?_) (fun c8 => ?_)
      · have h := h.1 c8
        refine EV.iconst 64 rfl dX9_divideRows_63 (v := 1) (by decide) ?_
        refine EV.goto 68 (by decide) dX9_divideRows_64 ?_
        refine EV.istore 70 rfl [some (.ref v0), some (.int v1), some (.int v2), some (.int v3), some (.int 1), some (.int v5)] (by decide) rfl dX9_divideRows_68 ?_
        refine EV.iinc 73 rfl [some (.ref v0), some (.int v1), some (.int v2), some (.int v3), some (.int 1), some (.int (v5 + 1))] (v := 1) (by decide) (by decide) rfl rfl dX9_divideRows_70 ?_
        refine EV.goto 15 (by decide) dX9_divideRows_73 ?_
        exact h
      · have h := h.2 c8
        refine EV.iload_n 42 rfl 3 rfl rfl dX9_divideRows_41 ?_
        refine EV.iload 44 rfl rfl dX9_divideRows_42 ?_
        refine EV.iand 45 rfl dX9_divideRows_44 ?_
        refine EV.if_ne 48 67 rfl (by decide) dX9_divideRows_45 (fun c9 => ?_) (fun c9 => ?_)
        · have h := h.1 c9
          refine EV.iconst 68 rfl dX9_divideRows_67 (v := 0) (by decide) ?_
          refine EV.istore 70 rfl [some (.ref v0), some (.int v1), some (.int v2), some (.int v3), some (.int 0), some (.int v5)] (by decide) rfl dX9_divideRows_68 ?_
          refine EV.iinc 73 rfl [some (.ref v0), some (.int v1), some (.int v2), some (.int v3), some (.int 0), some (.int (v5 + 1))] (v := 1) (by decide) (by decide) rfl rfl dX9_divideRows_70 ?_
          refine EV.goto 15 (by decide) dX9_divideRows_73 ?_
          exact h
        · have h := h.2 c9
          refine EV.aload_n 49 rfl 0 rfl rfl dX9_divideRows_48 ?_
          obtain ⟨w10, h⟩ := h
          obtain ⟨t11, g12, h⟩ := h
          refine EV.getR 52 rfl fl_X9_41 rfl dX9_divideRows_49 w10 g12 ?_
          refine EV.iload_n 53 rfl 1 rfl rfl dX9_divideRows_52 ?_
          refine EV.iload_n 54 rfl 3 rfl rfl dX9_divideRows_53 ?_
          refine EV.iload 56 rfl rfl dX9_divideRows_54 ?_
          refine EV.ior 57 rfl dX9_divideRows_56 ?_
          refine EV.cS rfl lk_X9_65 rfl (vs := [.ref t11, .int v1, .int (v3 ||| v5)]) (st := []) rfl rfl (Nat.le_of_ble_eq_true rfl) dX9_divideRows_57 h (fun v σ13 h => ?_)
          obtain ⟨r14, rfl, h⟩ := h
          show EV Γ MX9_divideRows d 60 [some (.ref v0), some (.int v1), some (.int v2), some (.int v3), some (.int v4), some (.int v5)] [.int r14] σ13 Q
          refine EV.if_eq 63 67 rfl (by decide) dX9_divideRows_60 (fun c15 => ?_) (fun c15 => ?_)
          · have h := h.1 c15
            refine EV.iconst 68 rfl dX9_divideRows_67 (v := 0) (by decide) ?_
            refine EV.istore 70 rfl [some (.ref v0), some (.int v1), some (.int v2), some (.int v3), some (.int 0), some (.int v5)] (by decide) rfl dX9_divideRows_68 ?_
            refine EV.iinc 73 rfl [some (.ref v0), some (.int v1), some (.int v2), some (.int v3), some (.int 0), some (.int (v5 + 1))] (v := 1) (by decide) (by decide) rfl rfl dX9_divideRows_70 ?_
            refine EV.goto 15 (by decide) dX9_divideRows_73 ?_
            exact h
          · have h := h.2 c15
            refine EV.iconst 64 rfl dX9_divideRows_63 (v := 1) (by decide) ?_
            refine EV.goto 68 (by decide) dX9_divideRows_64 ?_
            refine EV.istore 70 rfl [some (.ref v0), some (.int v1), some (.int v2), some (.int v3), some (.int 1), some (.int v5)] (by decide) rfl dX9_divideRows_68 ?_
            refine EV.iinc 73 rfl [some (.ref v0), some (.int v1), some (.int v2), some (.int v3), some (.int 1), some (.int (v5 + 1))] (v := 1) (by decide) (by decide) rfl rfl dX9_divideRows_70 ?_
            refine EV.goto 15 (by decide) dX9_divideRows_73 ?_
            exact h
theorem gX9_divideRows_76 {Γ : Gm} {d : Nat} {σ : AH} {Q : Oc → AH → Prop} {v0 : Nat} {v1 : Int32} {v2 : Int32} {v3 : Int32} {v4 : Int32} (h : ((v4 = 0 → EV Γ MX9_divideRows d 2 [some (.ref v0), some (.int v1), some (.int v2), some (.int (v3 + 1)), none, none] [] σ Q) ∧ (¬ v4 = 0 → hs σ v0 = some (7, 27) ∧ ∃ t3 : Nat, gr σ v0 15 = some t3 ∧ CV Γ d MX9_put [.ref t3, .int 108, .int v3] σ (fun σ5 => EV Γ MX9_divideRows d 2 [some (.ref v0), some (.int v1), some (.int v2), some (.int (v3 + 1)), none, none] [] σ5 Q) (fun _ _ => False)))) : EV Γ MX9_divideRows d 76 [some (.ref v0), some (.int v1), some (.int v2), some (.int v3), some (.int v4), none] [] σ Q := by
  refine EV.iload 78 rfl rfl dX9_divideRows_76 ?_
  refine EV.if_eq 81 91 rfl (by decide) dX9_divideRows_78 (fun c1 => ?_) (fun c1 => ?_)
  · have h := h.1 c1
    refine EV.iinc 94 rfl [some (.ref v0), some (.int v1), some (.int v2), some (.int (v3 + 1)), some (.int v4), none] (v := 1) (by decide) (by decide) rfl rfl dX9_divideRows_91 ?_
    refine EV.goto 2 (by decide) dX9_divideRows_94 ?_
    refine EV.mask [true, true, true, true, false, false] (L' := [some (.ref v0), some (.int v1), some (.int v2), some (.int (v3 + 1)), none, none]) rfl ?_
    exact h
  · have h := h.2 c1
    refine EV.aload_n 82 rfl 0 rfl rfl dX9_divideRows_81 ?_
    obtain ⟨w2, h⟩ := h
    obtain ⟨t3, g4, h⟩ := h
    refine EV.getR 85 rfl fl_X9_41 rfl dX9_divideRows_82 w2 g4 ?_
    refine EV.bipush 87 rfl dX9_divideRows_85 (v := 108) (by decide) ?_
    refine EV.iload_n 88 rfl 3 rfl rfl dX9_divideRows_87 ?_
    refine EV.cS rfl lk_X9_98 rfl (vs := [.ref t3, .int 108, .int v3]) (st := []) rfl rfl (Nat.le_of_ble_eq_true rfl) dX9_divideRows_88 h (fun v σ5 h => ?_)
    obtain ⟨rfl, h⟩ := h
    show EV Γ MX9_divideRows d 91 [some (.ref v0), some (.int v1), some (.int v2), some (.int v3), some (.int v4), none] [] σ5 Q
    refine EV.iinc 94 rfl [some (.ref v0), some (.int v1), some (.int v2), some (.int (v3 + 1)), some (.int v4), none] (v := 1) (by decide) (by decide) rfl rfl dX9_divideRows_91 ?_
    refine EV.goto 2 (by decide) dX9_divideRows_94 ?_
    refine EV.mask [true, true, true, true, false, false] (L' := [some (.ref v0), some (.int v1), some (.int v2), some (.int (v3 + 1)), none, none]) rfl ?_
    exact h
theorem gX9_restRows_0 {Γ : Gm} {d : Nat} {σ : AH} {Q : Oc → AH → Prop} {v0 : Nat} {v1 : Int32} {v2 : Int32} (h : hs σ v0 = some (7, 27) ∧ CV Γ d MX9_divideRows [.ref v0, .int v1, .int v2] σ (fun σ1 => EV Γ MX9_restRows d 8 [some (.ref v0), some (.int v1), some (.int v2), some (.int 0)] [] σ1 Q) (fun E σ1 => Q (.inr E) σ1)) : EV Γ MX9_restRows d 0 [some (.ref v0), some (.int v1), some (.int v2), none] [] σ Q := by
  refine EV.aload_n 1 rfl 0 rfl rfl dX9_restRows_0 ?_
  refine EV.iload_n 2 rfl 1 rfl rfl dX9_restRows_1 ?_
  refine EV.iload_n 3 rfl 2 rfl rfl dX9_restRows_2 ?_
  obtain ⟨w3, h⟩ := h
  refine EV.cV rfl rfl lk_X9_80 rfl (vs := [.int v1, .int v2]) (st := []) rfl rfl (Nat.le_of_ble_eq_true rfl) dX9_restRows_3 w3 h (fun v σ1 h => ?_)
  obtain ⟨rfl, h⟩ := h
  show EV Γ MX9_restRows d 6 [some (.ref v0), some (.int v1), some (.int v2), none] [] σ1 Q
  refine EV.iconst 7 rfl dX9_restRows_6 (v := 0) (by decide) ?_
  refine EV.istore_n 8 rfl 3 [some (.ref v0), some (.int v1), some (.int v2), some (.int 0)] rfl (by decide) rfl dX9_restRows_7 ?_
  exact h
theorem eX9_restRows {Γ : Gm} {d : Nat} {σ : AH} {Q : Oc → AH → Prop} {v0 : Nat} {v1 : Int32} {v2 : Int32} (h : hs σ v0 = some (7, 27) ∧ CV Γ d MX9_divideRows [.ref v0, .int v1, .int v2] σ (fun σ1 => EV Γ MX9_restRows d 8 [some (.ref v0), some (.int v1), some (.int v2), some (.int 0)] [] σ1 Q) (fun E σ1 => Q (.inr E) σ1)) : RUN Γ d MX9_restRows [.ref v0, .int v1, .int v2] σ Q :=
  EV.enter [some (.ref v0), some (.int v1), some (.int v2), none] rfl (by decide +kernel) (Nat.le_of_ble_eq_true rfl) rfl (gX9_restRows_0 h)
theorem gX9_restRows_8 {Γ : Gm} {d : Nat} {σ : AH} {Q : Oc → AH → Prop} {v0 : Nat} {v1 : Int32} {v2 : Int32} {v3 : Int32} (h : ((64 ≤ v3 → hs σ v0 = some (7, 27) ∧ CV Γ d MX9_joinRows [.ref v0, .int 109, .int v2] σ (fun σ2 => EV Γ MX9_restRows d 60 [some (.ref v0), some (.int v1), none, some (.int 0)] [] σ2 Q) (fun E σ2 => Q (.inr E) σ2)) ∧ (¬ 64 ≤ v3 → hs σ v0 = some (7, 27) ∧ ∃ t6 : Nat, gr σ v0 15 = some t6 ∧ ∃ n9 : Nat, hs σ t6 = some (23, n9) ∧ ∃ j10 : Nat, IX ((6912 : Int32) + v3) n9 j10 ∧ ∃ j12 : Nat, IX ((6976 : Int32) + v3) n9 j12 ∧ ∀ σ14 : AH, σ14 = setJ σ t6 j12 (gj σ t6 j10) → ∀ σ19 : AH, σ19 = setJ σ14 t6 j10 0 → EV Γ MX9_restRows d 8 [some (.ref v0), some (.int v1), some (.int v2), some (.int (v3 + 1))] [] σ19 Q))) : EV Γ MX9_restRows d 8 [some (.ref v0), some (.int v1), some (.int v2), some (.int v3)] [] σ Q := by
  refine EV.iload_n 9 rfl 3 rfl rfl dX9_restRows_8 ?_
  refine EV.bipush 11 rfl dX9_restRows_9 (v := 64) (by decide) ?_
  refine EV.icmp_ge 14 51 rfl (by decide) dX9_restRows_11 (fun c1 => ?_) (fun c1 => ?_)
  · have h := h.1 c1
    refine EV.aload_n 52 rfl 0 rfl rfl dX9_restRows_51 ?_
    refine EV.bipush 54 rfl dX9_restRows_52 (v := 109) (by decide) ?_
    refine EV.iload_n 55 rfl 2 rfl rfl dX9_restRows_54 ?_
    obtain ⟨w4, h⟩ := h
    refine EV.cV rfl rfl lk_X9_73 rfl (vs := [.int 109, .int v2]) (st := []) rfl rfl (Nat.le_of_ble_eq_true rfl) dX9_restRows_55 w4 h (fun v σ2 h => ?_)
    obtain ⟨rfl, h⟩ := h
    show EV Γ MX9_restRows d 58 [some (.ref v0), some (.int v1), some (.int v2), some (.int v3)] [] σ2 Q
    refine EV.iconst 59 rfl dX9_restRows_58 (v := 0) (by decide) ?_
    refine EV.istore_n 60 rfl 3 [some (.ref v0), some (.int v1), some (.int v2), some (.int 0)] rfl (by decide) rfl dX9_restRows_59 ?_
    refine EV.mask [true, true, false, true] (L' := [some (.ref v0), some (.int v1), none, some (.int 0)]) rfl ?_
    exact h
  · have h := h.2 c1
    refine EV.aload_n 15 rfl 0 rfl rfl dX9_restRows_14 ?_
    obtain ⟨w5, h⟩ := h
    obtain ⟨t6, g7, h⟩ := h
    refine EV.getR 18 rfl fl_X9_41 rfl dX9_restRows_15 w5 g7 ?_
    refine EV.sipush 21 rfl dX9_restRows_18 (v := 6976) (by decide) ?_
    refine EV.iload_n 22 rfl 3 rfl rfl dX9_restRows_21 ?_
    refine EV.iadd 23 rfl dX9_restRows_22 ?_
    refine EV.aload_n 24 rfl 0 rfl rfl dX9_restRows_23 ?_
    refine EV.getR 27 rfl fl_X9_41 rfl dX9_restRows_24 w5 g7 ?_
    refine EV.sipush 30 rfl dX9_restRows_27 (v := 6912) (by decide) ?_
    refine EV.iload_n 31 rfl 3 rfl rfl dX9_restRows_30 ?_
    refine EV.iadd 32 rfl dX9_restRows_31 ?_
    obtain ⟨n9, w8, h⟩ := h
    obtain ⟨j10, x11, h⟩ := h
    refine EV.lald 33 rfl dX9_restRows_32 w8 x11 ?_
    obtain ⟨j12, x13, h⟩ := h
    refine EV.last 34 rfl dX9_restRows_33 w8 x13 (EV.nm (fun σ14 e15 => ?_))
    have h := h σ14 e15
    have w16 := tr_hs (hs_setJ_of e15) w5
    have w17 := tr_hs (hs_setJ_of e15) w8
    have g18 := tr_gr (gr_setJ_of e15) g7
    refine EV.aload_n 35 rfl 0 rfl rfl dX9_restRows_34 ?_
    refine EV.getR 38 rfl fl_X9_41 rfl dX9_restRows_35 w16 g18 ?_
    refine EV.sipush 41 rfl dX9_restRows_38 (v := 6912) (by decide) ?_
    refine EV.iload_n 42 rfl 3 rfl rfl dX9_restRows_41 ?_
    refine EV.iadd 43 rfl dX9_restRows_42 ?_
    refine EV.lconst 44 rfl dX9_restRows_43 (v := 0) (by decide) ?_
    refine EV.last 45 rfl dX9_restRows_44 w17 x11 (EV.nm (fun σ19 e20 => ?_))
    have h := h σ19 e20
    have w21 := tr_hs (hs_setJ_of e20) w16
    have w22 := tr_hs (hs_setJ_of e20) w17
    have g23 := tr_gr (gr_setJ_of e20) g18
    refine EV.iinc 48 rfl [some (.ref v0), some (.int v1), some (.int v2), some (.int (v3 + 1))] (v := 1) (by decide) (by decide) rfl rfl dX9_restRows_45 ?_
    refine EV.goto 8 (by decide) dX9_restRows_48 ?_
    exact h
theorem gX9_restRows_60 {Γ : Gm} {d : Nat} {σ : AH} {Q : Oc → AH → Prop} {v0 : Nat} {v1 : Int32} {v3 : Int32} (h : ((64 ≤ v3 → Q (.inl none) σ) ∧ (¬ 64 ≤ v3 → hs σ v0 = some (7, 27) ∧ ∃ t3 : Nat, gr σ v0 15 = some t3 ∧ ∃ n6 : Nat, hs σ t3 = some (23, n6) ∧ ∃ j7 : Nat, IX (((64 : Int32) * v1) + v3) n6 j7 ∧ ∃ j9 : Nat, IX ((6912 : Int32) + v3) n6 j9 ∧ ∀ σ11 : AH, σ11 = setJ σ t3 j9 ((gj σ t3 j7) &&& ((gj σ t3 j9) ^^^ (-1))) → EV Γ MX9_restRows d 60 [some (.ref v0), some (.int v1), none, some (.int (v3 + 1))] [] σ11 Q))) : EV Γ MX9_restRows d 60 [some (.ref v0), some (.int v1), none, some (.int v3)] [] σ Q := by
  refine EV.iload_n 61 rfl 3 rfl rfl dX9_restRows_60 ?_
  refine EV.bipush 63 rfl dX9_restRows_61 (v := 64) (by decide) ?_
  refine EV.icmp_ge 66 108 rfl (by decide) dX9_restRows_63 (fun c1 => ?_) (fun c1 => ?_)
  · have h := h.1 c1
    exact EV.vret rfl dX9_restRows_108 h
  · have h := h.2 c1
    refine EV.aload_n 67 rfl 0 rfl rfl dX9_restRows_66 ?_
    obtain ⟨w2, h⟩ := h
    obtain ⟨t3, g4, h⟩ := h
    refine EV.getR 70 rfl fl_X9_41 rfl dX9_restRows_67 w2 g4 ?_
    refine EV.sipush 73 rfl dX9_restRows_70 (v := 6912) (by decide) ?_
    refine EV.iload_n 74 rfl 3 rfl rfl dX9_restRows_73 ?_
    refine EV.iadd 75 rfl dX9_restRows_74 ?_
    refine EV.aload_n 76 rfl 0 rfl rfl dX9_restRows_75 ?_
    refine EV.getR 79 rfl fl_X9_41 rfl dX9_restRows_76 w2 g4 ?_
    refine EV.bipush 81 rfl dX9_restRows_79 (v := 64) (by decide) ?_
    refine EV.iload_n 82 rfl 1 rfl rfl dX9_restRows_81 ?_
    refine EV.imul 83 rfl dX9_restRows_82 ?_
    refine EV.iload_n 84 rfl 3 rfl rfl dX9_restRows_83 ?_
    refine EV.iadd 85 rfl dX9_restRows_84 ?_
    obtain ⟨n6, w5, h⟩ := h
    obtain ⟨j7, x8, h⟩ := h
    refine EV.lald 86 rfl dX9_restRows_85 w5 x8 ?_
    refine EV.aload_n 87 rfl 0 rfl rfl dX9_restRows_86 ?_
    refine EV.getR 90 rfl fl_X9_41 rfl dX9_restRows_87 w2 g4 ?_
    refine EV.sipush 93 rfl dX9_restRows_90 (v := 6912) (by decide) ?_
    refine EV.iload_n 94 rfl 3 rfl rfl dX9_restRows_93 ?_
    refine EV.iadd 95 rfl dX9_restRows_94 ?_
    obtain ⟨j9, x10, h⟩ := h
    refine EV.lald 96 rfl dX9_restRows_95 w5 x10 ?_
    refine EV.ldc2 99 rfl k_X9_105 dX9_restRows_96 ?_
    refine EV.lxor 100 rfl dX9_restRows_99 ?_
    refine EV.land 101 rfl dX9_restRows_100 ?_
    refine EV.last 102 rfl dX9_restRows_101 w5 x10 (EV.nm (fun σ11 e12 => ?_))
    have h := h σ11 e12
    have w13 := tr_hs (hs_setJ_of e12) w2
    have w14 := tr_hs (hs_setJ_of e12) w5
    have g15 := tr_gr (gr_setJ_of e12) g4
    refine EV.iinc 105 rfl [some (.ref v0), some (.int v1), none, some (.int (v3 + 1))] (v := 1) (by decide) (by decide) rfl rfl dX9_restRows_102 ?_
    refine EV.goto 60 (by decide) dX9_restRows_105 ?_
    exact h
theorem gX9_hit_0 {Γ : Gm} {d : Nat} {σ : AH} {Q : Oc → AH → Prop} {v0 : Nat} {v1 : Int32} (h : hs σ v0 = some (7, 27) ∧ ∃ t2 : Nat, gr σ v0 15 = some t2 ∧ ∃ t4 : Nat, gr σ v0 13 = some t4 ∧ CV Γ d MX9_countSubsets [.ref t2, .int v1, .ref t4] σ (fun σ6 => hs σ6 v0 = some (7, 27) ∧ ∃ t9 : Nat, gr σ6 v0 15 = some t9 ∧ CV Γ d MX9_clear [.ref t9, .int 109] σ6 (fun σ11 => EV Γ MX9_hit d 23 [some (.ref v0), none, some (.int 0)] [] σ11 Q) (fun _ _ => False)) (fun _ _ => False)) : EV Γ MX9_hit d 0 [some (.ref v0), some (.int v1), none] [] σ Q := by
  refine EV.aload_n 1 rfl 0 rfl rfl dX9_hit_0 ?_
  obtain ⟨w1, h⟩ := h
  obtain ⟨t2, g3, h⟩ := h
  refine EV.getR 4 rfl fl_X9_41 rfl dX9_hit_1 w1 g3 ?_
  refine EV.iload_n 5 rfl 1 rfl rfl dX9_hit_4 ?_
  refine EV.aload_n 6 rfl 0 rfl rfl dX9_hit_5 ?_
  obtain ⟨t4, g5, h⟩ := h
  refine EV.getR 9 rfl fl_X9_35 rfl dX9_hit_6 w1 g5 ?_
  refine EV.cS rfl lk_X9_94 rfl (vs := [.ref t2, .int v1, .ref t4]) (st := []) rfl rfl (Nat.le_of_ble_eq_true rfl) dX9_hit_9 h (fun v σ6 h => ?_)
  obtain ⟨rfl, h⟩ := h
  show EV Γ MX9_hit d 12 [some (.ref v0), some (.int v1), none] [] σ6 Q
  refine EV.aload_n 13 rfl 0 rfl rfl dX9_hit_12 ?_
  obtain ⟨w8, h⟩ := h
  obtain ⟨t9, g10, h⟩ := h
  refine EV.getR 16 rfl fl_X9_41 rfl dX9_hit_13 w8 g10 ?_
  refine EV.bipush 18 rfl dX9_hit_16 (v := 109) (by decide) ?_
  refine EV.cS rfl lk_X9_69 rfl (vs := [.ref t9, .int 109]) (st := []) rfl rfl (Nat.le_of_ble_eq_true rfl) dX9_hit_18 h (fun v σ11 h => ?_)
  obtain ⟨rfl, h⟩ := h
  show EV Γ MX9_hit d 21 [some (.ref v0), some (.int v1), none] [] σ11 Q
  refine EV.iconst 22 rfl dX9_hit_21 (v := 0) (by decide) ?_
  refine EV.istore_n 23 rfl 2 [some (.ref v0), some (.int v1), some (.int 0)] rfl (by decide) rfl dX9_hit_22 ?_
  refine EV.mask [true, false, true] (L' := [some (.ref v0), none, some (.int 0)]) rfl ?_
  exact h
theorem eX9_hit {Γ : Gm} {d : Nat} {σ : AH} {Q : Oc → AH → Prop} {v0 : Nat} {v1 : Int32} (h : hs σ v0 = some (7, 27) ∧ ∃ t2 : Nat, gr σ v0 15 = some t2 ∧ ∃ t4 : Nat, gr σ v0 13 = some t4 ∧ CV Γ d MX9_countSubsets [.ref t2, .int v1, .ref t4] σ (fun σ6 => hs σ6 v0 = some (7, 27) ∧ ∃ t9 : Nat, gr σ6 v0 15 = some t9 ∧ CV Γ d MX9_clear [.ref t9, .int 109] σ6 (fun σ11 => EV Γ MX9_hit d 23 [some (.ref v0), none, some (.int 0)] [] σ11 Q) (fun _ _ => False)) (fun _ _ => False)) : RUN Γ d MX9_hit [.ref v0, .int v1] σ Q :=
  EV.enter [some (.ref v0), some (.int v1), none] rfl (by decide +kernel) (Nat.le_of_ble_eq_true rfl) rfl (gX9_hit_0 h)
theorem gX9_hit_23 {Γ : Gm} {d : Nat} {σ : AH} {Q : Oc → AH → Prop} {v0 : Nat} {v2 : Int32} (h : ((4096 ≤ v2 → hs σ v0 = some (7, 27) ∧ ∃ t3 : Nat, gr σ v0 15 = some t3 ∧ ∃ t5 : Nat, gr σ v0 13 = some t5 ∧ CV Γ d MX9_countSubsets [.ref t3, .int 109, .ref t5] σ (fun σ7 => EV Γ MX9_hit d 76 [some (.ref v0), none, some (.int 0)] [] σ7 Q) (fun _ _ => False)) ∧ (¬ 4096 ≤ v2 → hs σ v0 = some (7, 27) ∧ ∃ t10 : Nat, gr σ v0 13 = some t10 ∧ ∃ n13 : Nat, hs σ t10 = some (23, n13) ∧ ∃ j14 : Nat, IX ((4095 : Int32) - v2) n13 j14 ∧ (((lg_cmp (gj σ t10 j14) 0) ≠ 0 → EV Γ MX9_hit d 23 [some (.ref v0), none, some (.int (v2 + 1))] [] σ Q) ∧ ((lg_cmp (gj σ t10 j14) 0) = 0 → ∃ t17 : Nat, gr σ v0 15 = some t17 ∧ CV Γ d MX9_put [.ref t17, .int 109, .int v2] σ (fun σ19 => EV Γ MX9_hit d 23 [some (.ref v0), none, some (.int (v2 + 1))] [] σ19 Q) (fun _ _ => False)))))) : EV Γ MX9_hit d 23 [some (.ref v0), none, some (.int v2)] [] σ Q := by
  refine EV.iload_n 24 rfl 2 rfl rfl dX9_hit_23 ?_
  refine EV.sipush 27 rfl dX9_hit_24 (v := 4096) (by decide) ?_
  refine EV.icmp_ge 30 61 rfl (by decide) dX9_hit_27 (fun c1 => ?_) (fun c1 => ?_)
  · have h := h.1 c1
    refine EV.aload_n 62 rfl 0 rfl rfl dX9_hit_61 ?_
    obtain ⟨w2, h⟩ := h
    obtain ⟨t3, g4, h⟩ := h
    refine EV.getR 65 rfl fl_X9_41 rfl dX9_hit_62 w2 g4 ?_
    refine EV.bipush 67 rfl dX9_hit_65 (v := 109) (by decide) ?_
    refine EV.aload_n 68 rfl 0 rfl rfl dX9_hit_67 ?_
    obtain ⟨t5, g6, h⟩ := h
    refine EV.getR 71 rfl fl_X9_35 rfl dX9_hit_68 w2 g6 ?_
    refine EV.cS rfl lk_X9_94 rfl (vs := [.ref t3, .int 109, .ref t5]) (st := []) rfl rfl (Nat.le_of_ble_eq_true rfl) dX9_hit_71 h (fun v σ7 h => ?_)
    obtain ⟨rfl, h⟩ := h
    show EV Γ MX9_hit d 74 [some (.ref v0), none, some (.int v2)] [] σ7 Q
    refine EV.iconst 75 rfl dX9_hit_74 (v := 0) (by decide) ?_
    refine EV.istore_n 76 rfl 2 [some (.ref v0), none, some (.int 0)] rfl (by decide) rfl dX9_hit_75 ?_
    exact h
  · have h := h.2 c1
    refine EV.aload_n 31 rfl 0 rfl rfl dX9_hit_30 ?_
    obtain ⟨w9, h⟩ := h
    obtain ⟨t10, g11, h⟩ := h
    refine EV.getR 34 rfl fl_X9_35 rfl dX9_hit_31 w9 g11 ?_
    refine EV.sipush 37 rfl dX9_hit_34 (v := 4095) (by decide) ?_
    refine EV.iload_n 38 rfl 2 rfl rfl dX9_hit_37 ?_
    refine EV.isub 39 rfl dX9_hit_38 ?_
    obtain ⟨n13, w12, h⟩ := h
    obtain ⟨j14, x15, h⟩ := h
    refine EV.lald 40 rfl dX9_hit_39 w12 x15 ?_
    refine EV.lconst 41 rfl dX9_hit_40 (v := 0) (by decide) ?_
    refine EV.lcmp 42 rfl dX9_hit_41 ?_
    refine EV.if_ne 45 55 rfl (by decide) dX9_hit_42 (fun c16 => ?_) (fun c16 => ?_)
    · have h := h.1 c16
      refine EV.iinc 58 rfl [some (.ref v0), none, some (.int (v2 + 1))] (v := 1) (by decide) (by decide) rfl rfl dX9_hit_55 ?_
      refine EV.goto 23 (by decide) dX9_hit_58 ?_
      exact h
    · have h := h.2 c16
      refine EV.aload_n 46 rfl 0 rfl rfl dX9_hit_45 ?_
      obtain ⟨t17, g18, h⟩ := h
      refine EV.getR 49 rfl fl_X9_41 rfl dX9_hit_46 w9 g18 ?_
      refine EV.bipush 51 rfl dX9_hit_49 (v := 109) (by decide) ?_
      refine EV.iload_n 52 rfl 2 rfl rfl dX9_hit_51 ?_
      refine EV.cS rfl lk_X9_98 rfl (vs := [.ref t17, .int 109, .int v2]) (st := []) rfl rfl (Nat.le_of_ble_eq_true rfl) dX9_hit_52 h (fun v σ19 h => ?_)
      obtain ⟨rfl, h⟩ := h
      show EV Γ MX9_hit d 55 [some (.ref v0), none, some (.int v2)] [] σ19 Q
      refine EV.iinc 58 rfl [some (.ref v0), none, some (.int (v2 + 1))] (v := 1) (by decide) (by decide) rfl rfl dX9_hit_55 ?_
      refine EV.goto 23 (by decide) dX9_hit_58 ?_
      exact h
theorem gX9_hit_76 {Γ : Gm} {d : Nat} {σ : AH} {Q : Oc → AH → Prop} {v0 : Nat} {v2 : Int32} (h : ((4096 ≤ v2 → Q (.inl none) σ) ∧ (¬ 4096 ≤ v2 → hs σ v0 = some (7, 27) ∧ ∃ t3 : Nat, gr σ v0 15 = some t3 ∧ CI Γ d MX9_has [.ref t3, .int 109, .int v2] σ (fun r6 σ5 => ((r6 = 0 → EV Γ MX9_hit d 76 [some (.ref v0), none, some (.int (v2 + 1))] [] σ5 Q) ∧ (¬ r6 = 0 → hs σ5 v0 = some (7, 27) ∧ ∃ t9 : Nat, gr σ5 v0 13 = some t9 ∧ ∃ n12 : Nat, hs σ5 t9 = some (23, n12) ∧ ∃ j13 : Nat, IX v2 n12 j13 ∧ (((lg_cmp (gj σ5 t9 j13) 1) ≠ 0 → EV Γ MX9_hit d 76 [some (.ref v0), none, some (.int (v2 + 1))] [] σ5 Q) ∧ ((lg_cmp (gj σ5 t9 j13) 1) = 0 → ∃ t16 : Nat, gr σ5 v0 15 = some t16 ∧ CV Γ d MX9_put [.ref t16, .int 108, .int v2] σ5 (fun σ18 => EV Γ MX9_hit d 76 [some (.ref v0), none, some (.int (v2 + 1))] [] σ18 Q) (fun _ _ => False)))))) (fun _ _ => False)))) : EV Γ MX9_hit d 76 [some (.ref v0), none, some (.int v2)] [] σ Q := by
  refine EV.iload_n 77 rfl 2 rfl rfl dX9_hit_76 ?_
  refine EV.sipush 80 rfl dX9_hit_77 (v := 4096) (by decide) ?_
  refine EV.icmp_ge 83 123 rfl (by decide) dX9_hit_80 (fun c1 => ?_) (fun c1 => ?_)
  · have h := h.1 c1
    exact EV.vret rfl dX9_hit_123 h
  · have h := h.2 c1
    refine EV.aload_n 84 rfl 0 rfl rfl dX9_hit_83 ?_
    obtain ⟨w2, h⟩ := h
    obtain ⟨t3, g4, h⟩ := h
    refine EV.getR 87 rfl fl_X9_41 rfl dX9_hit_84 w2 g4 ?_
    refine EV.bipush 89 rfl dX9_hit_87 (v := 109) (by decide) ?_
    refine EV.iload_n 90 rfl 2 rfl rfl dX9_hit_89 ?_
    refine EV.cS rfl lk_X9_65 rfl (vs := [.ref t3, .int 109, .int v2]) (st := []) rfl rfl (Nat.le_of_ble_eq_true rfl) dX9_hit_90 h (fun v σ5 h => ?_)
    obtain ⟨r6, rfl, h⟩ := h
    show EV Γ MX9_hit d 93 [some (.ref v0), none, some (.int v2)] [.int r6] σ5 Q
    refine EV.if_eq 96 117 rfl (by decide) dX9_hit_93 (fun c7 => ?_) (fun c7 => ?_)
    · have h := h.1 c7
      refine EV.iinc 120 rfl [some (.ref v0), none, some (.int (v2 + 1))] (v := 1) (by decide) (by decide) rfl rfl dX9_hit_117 ?_
      refine EV.goto 76 (by decide) dX9_hit_120 ?_
      exact h
    · have h := h.2 c7
      refine EV.aload_n 97 rfl 0 rfl rfl dX9_hit_96 ?_
      obtain ⟨w8, h⟩ := h
      obtain ⟨t9, g10, h⟩ := h
      refine EV.getR 100 rfl fl_X9_35 rfl dX9_hit_97 w8 g10 ?_
      refine EV.iload_n 101 rfl 2 rfl rfl dX9_hit_100 ?_
      obtain ⟨n12, w11, h⟩ := h
      obtain ⟨j13, x14, h⟩ := h
      refine EV.lald 102 rfl dX9_hit_101 w11 x14 ?_
      refine EV.lconst 103 rfl dX9_hit_102 (v := 1) (by decide) ?_
      refine EV.lcmp 104 rfl dX9_hit_103 ?_
      refine EV.if_ne 107 117 rfl (by decide) dX9_hit_104 (fun c15 => ?_) (fun c15 => ?_)
      · have h := h.1 c15
        refine EV.iinc 120 rfl [some (.ref v0), none, some (.int (v2 + 1))] (v := 1) (by decide) (by decide) rfl rfl dX9_hit_117 ?_
        refine EV.goto 76 (by decide) dX9_hit_120 ?_
        exact h
      · have h := h.2 c15
        refine EV.aload_n 108 rfl 0 rfl rfl dX9_hit_107 ?_
        obtain ⟨t16, g17, h⟩ := h
        refine EV.getR 111 rfl fl_X9_41 rfl dX9_hit_108 w8 g17 ?_
        refine EV.bipush 113 rfl dX9_hit_111 (v := 108) (by decide) ?_
        refine EV.iload_n 114 rfl 2 rfl rfl dX9_hit_113 ?_
        refine EV.cS rfl lk_X9_98 rfl (vs := [.ref t16, .int 108, .int v2]) (st := []) rfl rfl (Nat.le_of_ble_eq_true rfl) dX9_hit_114 h (fun v σ18 h => ?_)
        obtain ⟨rfl, h⟩ := h
        show EV Γ MX9_hit d 117 [some (.ref v0), none, some (.int v2)] [] σ18 Q
        refine EV.iinc 120 rfl [some (.ref v0), none, some (.int (v2 + 1))] (v := 1) (by decide) (by decide) rfl rfl dX9_hit_117 ?_
        refine EV.goto 76 (by decide) dX9_hit_120 ?_
        exact h
theorem gX9_filter_0 {Γ : Gm} {d : Nat} {σ : AH} {Q : Oc → AH → Prop} {v0 : Nat} {v1 : Int32} {v2 : Int32} {v3 : Int32} (h : ((v1 ≠ 8 → EV Γ MX9_filter d 18 [some (.ref v0), some (.int v1), some (.int v2), some (.int v3), none] [] σ Q) ∧ (v1 = 8 → hs σ v0 = some (7, 27) ∧ ∃ t3 : Nat, gr σ v0 15 = some t3 ∧ ∃ t5 : Nat, gr σ v0 14 = some t5 ∧ CV Γ d MX9_countSubsets [.ref t3, .int v3, .ref t5] σ (fun σ7 => EV Γ MX9_filter d 18 [some (.ref v0), some (.int v1), some (.int v2), some (.int v3), none] [] σ7 Q) (fun _ _ => False)))) : EV Γ MX9_filter d 0 [some (.ref v0), some (.int v1), some (.int v2), some (.int v3), none] [] σ Q := by
  refine EV.iload_n 1 rfl 1 rfl rfl dX9_filter_0 ?_
  refine EV.bipush 3 rfl dX9_filter_1 (v := 8) (by decide) ?_
  refine EV.icmp_ne 6 18 rfl (by decide) dX9_filter_3 (fun c1 => ?_) (fun c1 => ?_)
  · have h := h.1 c1
    exact h
  · have h := h.2 c1
    refine EV.aload_n 7 rfl 0 rfl rfl dX9_filter_6 ?_
    obtain ⟨w2, h⟩ := h
    obtain ⟨t3, g4, h⟩ := h
    refine EV.getR 10 rfl fl_X9_41 rfl dX9_filter_7 w2 g4 ?_
    refine EV.iload_n 11 rfl 3 rfl rfl dX9_filter_10 ?_
    refine EV.aload_n 12 rfl 0 rfl rfl dX9_filter_11 ?_
    obtain ⟨t5, g6, h⟩ := h
    refine EV.getR 15 rfl fl_X9_38 rfl dX9_filter_12 w2 g6 ?_
    refine EV.cS rfl lk_X9_94 rfl (vs := [.ref t3, .int v3, .ref t5]) (st := []) rfl rfl (Nat.le_of_ble_eq_true rfl) dX9_filter_15 h (fun v σ7 h => ?_)
    obtain ⟨rfl, h⟩ := h
    show EV Γ MX9_filter d 18 [some (.ref v0), some (.int v1), some (.int v2), some (.int v3), none] [] σ7 Q
    exact h
theorem eX9_filter {Γ : Gm} {d : Nat} {σ : AH} {Q : Oc → AH → Prop} {v0 : Nat} {v1 : Int32} {v2 : Int32} {v3 : Int32} (h : ((v1 ≠ 8 → EV Γ MX9_filter d 18 [some (.ref v0), some (.int v1), some (.int v2), some (.int v3), none] [] σ Q) ∧ (v1 = 8 → hs σ v0 = some (7, 27) ∧ ∃ t3 : Nat, gr σ v0 15 = some t3 ∧ ∃ t5 : Nat, gr σ v0 14 = some t5 ∧ CV Γ d MX9_countSubsets [.ref t3, .int v3, .ref t5] σ (fun σ7 => EV Γ MX9_filter d 18 [some (.ref v0), some (.int v1), some (.int v2), some (.int v3), none] [] σ7 Q) (fun _ _ => False)))) : RUN Γ d MX9_filter [.ref v0, .int v1, .int v2, .int v3] σ Q :=
  EV.enter [some (.ref v0), some (.int v1), some (.int v2), some (.int v3), none] rfl (by decide +kernel) (Nat.le_of_ble_eq_true rfl) rfl (gX9_filter_0 h)
theorem gX9_filter_18 {Γ : Gm} {d : Nat} {σ : AH} {Q : Oc → AH → Prop} {v0 : Nat} {v1 : Int32} {v2 : Int32} {v3 : Int32} (h : ((v1 ≠ 9 → EV Γ MX9_filter d 36 [some (.ref v0), some (.int v1), some (.int v2), some (.int v3), none] [] σ Q) ∧ (v1 = 9 → hs σ v0 = some (7, 27) ∧ ∃ t3 : Nat, gr σ v0 15 = some t3 ∧ ∃ t5 : Nat, gr σ v0 14 = some t5 ∧ CV Γ d MX9_countSupersets [.ref t3, .int v3, .ref t5] σ (fun σ7 => EV Γ MX9_filter d 36 [some (.ref v0), some (.int v1), some (.int v2), some (.int v3), none] [] σ7 Q) (fun _ _ => False)))) : EV Γ MX9_filter d 18 [some (.ref v0), some (.int v1), some (.int v2), some (.int v3), none] [] σ Q := by
  refine EV.iload_n 19 rfl 1 rfl rfl dX9_filter_18 ?_
  refine EV.bipush 21 rfl dX9_filter_19 (v := 9) (by decide) ?_
  refine EV.icmp_ne 24 36 rfl (by decide) dX9_filter_21 (fun c1 => ?_) (fun c1 => ?_)
  · have h := h.1 c1
    exact h
  · have h := h.2 c1
    refine EV.aload_n 25 rfl 0 rfl rfl dX9_filter_24 ?_
    obtain ⟨w2, h⟩ := h
    obtain ⟨t3, g4, h⟩ := h
    refine EV.getR 28 rfl fl_X9_41 rfl dX9_filter_25 w2 g4 ?_
    refine EV.iload_n 29 rfl 3 rfl rfl dX9_filter_28 ?_
    refine EV.aload_n 30 rfl 0 rfl rfl dX9_filter_29 ?_
    obtain ⟨t5, g6, h⟩ := h
    refine EV.getR 33 rfl fl_X9_38 rfl dX9_filter_30 w2 g6 ?_
    refine EV.cS rfl lk_X9_102 rfl (vs := [.ref t3, .int v3, .ref t5]) (st := []) rfl rfl (Nat.le_of_ble_eq_true rfl) dX9_filter_33 h (fun v σ7 h => ?_)
    obtain ⟨rfl, h⟩ := h
    show EV Γ MX9_filter d 36 [some (.ref v0), some (.int v1), some (.int v2), some (.int v3), none] [] σ7 Q
    exact h
theorem gX9_filter_36 {Γ : Gm} {d : Nat} {σ : AH} {Q : Oc → AH → Prop} {v0 : Nat} {v1 : Int32} {v2 : Int32} {v3 : Int32} (h : ((v1 ≠ 11 → EV Γ MX9_filter d 54 [some (.ref v0), some (.int v1), some (.int v2), some (.int v3), none] [] σ Q) ∧ (v1 = 11 → hs σ v0 = some (7, 27) ∧ ∃ t3 : Nat, gr σ v0 15 = some t3 ∧ ∃ t5 : Nat, gr σ v0 13 = some t5 ∧ CV Γ d MX9_countSubsets [.ref t3, .int v2, .ref t5] σ (fun σ7 => EV Γ MX9_filter d 54 [some (.ref v0), some (.int v1), some (.int v2), some (.int v3), none] [] σ7 Q) (fun _ _ => False)))) : EV Γ MX9_filter d 36 [some (.ref v0), some (.int v1), some (.int v2), some (.int v3), none] [] σ Q := by
  refine EV.iload_n 37 rfl 1 rfl rfl dX9_filter_36 ?_
  refine EV.bipush 39 rfl dX9_filter_37 (v := 11) (by decide) ?_
  refine EV.icmp_ne 42 54 rfl (by decide) dX9_filter_39 (fun c1 => ?_) (fun c1 => ?_)
  · have h := h.1 c1
    exact h
  · have h := h.2 c1
    refine EV.aload_n 43 rfl 0 rfl rfl dX9_filter_42 ?_
    obtain ⟨w2, h⟩ := h
    obtain ⟨t3, g4, h⟩ := h
    refine EV.getR 46 rfl fl_X9_41 rfl dX9_filter_43 w2 g4 ?_
    refine EV.iload_n 47 rfl 2 rfl rfl dX9_filter_46 ?_
    refine EV.aload_n 48 rfl 0 rfl rfl dX9_filter_47 ?_
    obtain ⟨t5, g6, h⟩ := h
    refine EV.getR 51 rfl fl_X9_35 rfl dX9_filter_48 w2 g6 ?_
    refine EV.cS rfl lk_X9_94 rfl (vs := [.ref t3, .int v2, .ref t5]) (st := []) rfl rfl (Nat.le_of_ble_eq_true rfl) dX9_filter_51 h (fun v σ7 h => ?_)
    obtain ⟨rfl, h⟩ := h
    show EV Γ MX9_filter d 54 [some (.ref v0), some (.int v1), some (.int v2), some (.int v3), none] [] σ7 Q
    exact h
theorem gX9_filter_54 {Γ : Gm} {d : Nat} {σ : AH} {Q : Oc → AH → Prop} {v0 : Nat} {v1 : Int32} {v2 : Int32} {v3 : Int32} (h : ((v1 = 10 → EV Γ MX9_filter d 66 [some (.ref v0), some (.int v1), some (.int v2), some (.int v3), none] [] σ Q) ∧ (¬ v1 = 10 → ((v1 ≠ 13 → EV Γ MX9_filter d 81 [some (.ref v0), some (.int v1), some (.int v2), some (.int v3), some (.int 0)] [] σ Q) ∧ (v1 = 13 → EV Γ MX9_filter d 66 [some (.ref v0), some (.int v1), some (.int v2), some (.int v3), none] [] σ Q))))) : EV Γ MX9_filter d 54 [some (.ref v0), some (.int v1), some (.int v2), some (.int v3), none] [] σ Q := by
  refine EV.iload_n 55 rfl 1 rfl rfl dX9_filter_54 ?_
  refine EV.bipush 57 rfl dX9_filter_55 (v := 10) (by decide) ?_
  refine EV.icmp_eq 60 66 rfl (by decide) dX9_filter_57 (fun c1 => ?_) (fun c1 => ?_)
  · have h := h.1 c1
    exact h
  · have h := h.2 c1
    refine EV.iload_n 61 rfl 1 rfl rfl dX9_filter_60 ?_
    refine EV.bipush 63 rfl dX9_filter_61 (v := 13) (by decide) ?_
    refine EV.icmp_ne 66 78 rfl (by decide) dX9_filter_63 (fun c2 => ?_) (fun c2 => ?_)
    · have h := h.1 c2
      refine EV.iconst 79 rfl dX9_filter_78 (v := 0) (by decide) ?_
      refine EV.istore 81 rfl [some (.ref v0), some (.int v1), some (.int v2), some (.int v3), some (.int 0)] (by decide) rfl dX9_filter_79 ?_
      exact h
    · have h := h.2 c2
      exact h
theorem gX9_filter_66 {Γ : Gm} {d : Nat} {σ : AH} {Q : Oc → AH → Prop} {v0 : Nat} {v1 : Int32} {v2 : Int32} {v3 : Int32} (h : hs σ v0 = some (7, 27) ∧ ∃ t2 : Nat, gr σ v0 15 = some t2 ∧ ∃ t4 : Nat, gr σ v0 13 = some t4 ∧ CV Γ d MX9_countSupersets [.ref t2, .int v2, .ref t4] σ (fun σ6 => EV Γ MX9_filter d 81 [some (.ref v0), some (.int v1), some (.int v2), some (.int v3), some (.int 0)] [] σ6 Q) (fun _ _ => False)) : EV Γ MX9_filter d 66 [some (.ref v0), some (.int v1), some (.int v2), some (.int v3), none] [] σ Q := by
  refine EV.aload_n 67 rfl 0 rfl rfl dX9_filter_66 ?_
  obtain ⟨w1, h⟩ := h
  obtain ⟨t2, g3, h⟩ := h
  refine EV.getR 70 rfl fl_X9_41 rfl dX9_filter_67 w1 g3 ?_
  refine EV.iload_n 71 rfl 2 rfl rfl dX9_filter_70 ?_
  refine EV.aload_n 72 rfl 0 rfl rfl dX9_filter_71 ?_
  obtain ⟨t4, g5, h⟩ := h
  refine EV.getR 75 rfl fl_X9_35 rfl dX9_filter_72 w1 g5 ?_
  refine EV.cS rfl lk_X9_102 rfl (vs := [.ref t2, .int v2, .ref t4]) (st := []) rfl rfl (Nat.le_of_ble_eq_true rfl) dX9_filter_75 h (fun v σ6 h => ?_)
  obtain ⟨rfl, h⟩ := h
  show EV Γ MX9_filter d 78 [some (.ref v0), some (.int v1), some (.int v2), some (.int v3), none] [] σ6 Q
  refine EV.iconst 79 rfl dX9_filter_78 (v := 0) (by decide) ?_
  refine EV.istore 81 rfl [some (.ref v0), some (.int v1), some (.int v2), some (.int v3), some (.int 0)] (by decide) rfl dX9_filter_79 ?_
  exact h
theorem gX9_filter_81 {Γ : Gm} {d : Nat} {σ : AH} {Q : Oc → AH → Prop} {v0 : Nat} {v1 : Int32} {v2 : Int32} {v3 : Int32} {v4 : Int32} (h : ((4096 ≤ v4 → Q (.inl none) σ) ∧ (¬ 4096 ≤ v4 → hs σ v0 = some (7, 27) ∧ ∃ t3 : Nat, gr σ v0 15 = some t3 ∧ CI Γ d MX9_has [.ref t3, .int v2, .int v4] σ (fun r6 σ5 => hs σ5 v0 = some (7, 27) ∧ ∃ t8 : Nat, gr σ5 v0 15 = some t8 ∧ CI Γ d MX9_has [.ref t8, .int v3, .int v4] σ5 (fun r11 σ10 => hs σ10 v0 = some (7, 27) ∧ CI Γ d MX9_isKept [.ref v0, .int v1, .int v4, .int r6, .int r11] σ10 (fun r13 σ12 => ((r13 = 0 → EV Γ MX9_filter d 81 [some (.ref v0), some (.int v1), some (.int v2), some (.int v3), some (.int (v4 + 1))] [] σ12 Q) ∧ (¬ r13 = 0 → hs σ12 v0 = some (7, 27) ∧ ∃ t17 : Nat, gr σ12 v0 15 = some t17 ∧ CV Γ d MX9_put [.ref t17, .int 108, .int v4] σ12 (fun σ19 => EV Γ MX9_filter d 81 [some (.ref v0), some (.int v1), some (.int v2), some (.int v3), some (.int (v4 + 1))] [] σ19 Q) (fun _ _ => False)))) (fun E σ12 => Q (.inr E) σ12)) (fun _ _ => False)) (fun _ _ => False)))) : EV Γ MX9_filter d 81 [some (.ref v0), some (.int v1), some (.int v2), some (.int v3), some (.int v4)] [] σ Q := by
  refine EV.iload 83 rfl rfl dX9_filter_81 ?_
  refine EV.sipush 86 rfl dX9_filter_83 (v := 4096) (by decide) ?_
  refine EV.icmp_ge 89 136 rfl (by decide) dX9_filter_86 (fun c1 => ?_) (fun c1 => ?_)
  · have h := h.1 c1
    exact EV.vret rfl dX9_filter_136 h
  · have h := h.2 c1
    refine EV.aload_n 90 rfl 0 rfl rfl dX9_filter_89 ?_
    refine EV.iload_n 91 rfl 1 rfl rfl dX9_filter_90 ?_
    refine EV.iload 93 rfl rfl dX9_filter_91 ?_
    refine EV.aload_n 94 rfl 0 rfl rfl dX9_filter_93 ?_
    obtain ⟨w2, h⟩ := h
    obtain ⟨t3, g4, h⟩ := h
    refine EV.getR 97 rfl fl_X9_41 rfl dX9_filter_94 w2 g4 ?_
    refine EV.iload_n 98 rfl 2 rfl rfl dX9_filter_97 ?_
    refine EV.iload 100 rfl rfl dX9_filter_98 ?_
    refine EV.cS rfl lk_X9_65 rfl (vs := [.ref t3, .int v2, .int v4]) (st := [.int v4, .int v1, .ref v0]) rfl rfl (Nat.le_of_ble_eq_true rfl) dX9_filter_100 h (fun v σ5 h => ?_)
    obtain ⟨r6, rfl, h⟩ := h
    show EV Γ MX9_filter d 103 [some (.ref v0), some (.int v1), some (.int v2), some (.int v3), some (.int v4)] [.int r6, .int v4, .int v1, .ref v0] σ5 Q
    refine EV.aload_n 104 rfl 0 rfl rfl dX9_filter_103 ?_
    obtain ⟨w7, h⟩ := h
    obtain ⟨t8, g9, h⟩ := h
    refine EV.getR 107 rfl fl_X9_41 rfl dX9_filter_104 w7 g9 ?_
    refine EV.iload_n 108 rfl 3 rfl rfl dX9_filter_107 ?_
    refine EV.iload 110 rfl rfl dX9_filter_108 ?_
    refine EV.cS rfl lk_X9_65 rfl (vs := [.ref t8, .int v3, .int v4]) (st := [.int r6, .int v4, .int v1, .ref v0]) rfl rfl (Nat.le_of_ble_eq_true rfl) dX9_filter_110 h (fun v σ10 h => ?_)
    obtain ⟨r11, rfl, h⟩ := h
    show EV Γ MX9_filter d 113 [some (.ref v0), some (.int v1), some (.int v2), some (.int v3), some (.int v4)] [.int r11, .int r6, .int v4, .int v1, .ref v0] σ10 Q
    obtain ⟨w14, h⟩ := h
    refine EV.cV rfl rfl lk_X9_107 rfl (vs := [.int v1, .int v4, .int r6, .int r11]) (st := []) rfl rfl (Nat.le_of_ble_eq_true rfl) dX9_filter_113 w14 h (fun v σ12 h => ?_)
    obtain ⟨r13, rfl, h⟩ := h
    show EV Γ MX9_filter d 116 [some (.ref v0), some (.int v1), some (.int v2), some (.int v3), some (.int v4)] [.int r13] σ12 Q
    refine EV.if_eq 119 130 rfl (by decide) dX9_filter_116 (fun c15 => ?_) (fun c15 => ?_)
    · have h := h.1 c15
      refine EV.iinc 133 rfl [some (.ref v0), some (.int v1), some (.int v2), some (.int v3), some (.int (v4 + 1))] (v := 1) (by decide) (by decide) rfl rfl dX9_filter_130 ?_
      refine EV.goto 81 (by decide) dX9_filter_133 ?_
      exact h
    · have h := h.2 c15
      refine EV.aload_n 120 rfl 0 rfl rfl dX9_filter_119 ?_
      obtain ⟨w16, h⟩ := h
      obtain ⟨t17, g18, h⟩ := h
      refine EV.getR 123 rfl fl_X9_41 rfl dX9_filter_120 w16 g18 ?_
      refine EV.bipush 125 rfl dX9_filter_123 (v := 108) (by decide) ?_
      refine EV.iload 127 rfl rfl dX9_filter_125 ?_
      refine EV.cS rfl lk_X9_98 rfl (vs := [.ref t17, .int 108, .int v4]) (st := []) rfl rfl (Nat.le_of_ble_eq_true rfl) dX9_filter_127 h (fun v σ19 h => ?_)
      obtain ⟨rfl, h⟩ := h
      show EV Γ MX9_filter d 130 [some (.ref v0), some (.int v1), some (.int v2), some (.int v3), some (.int v4)] [] σ19 Q
      refine EV.iinc 133 rfl [some (.ref v0), some (.int v1), some (.int v2), some (.int v3), some (.int (v4 + 1))] (v := 1) (by decide) (by decide) rfl rfl dX9_filter_130 ?_
      refine EV.goto 81 (by decide) dX9_filter_133 ?_
      exact h
theorem gX9_isKept_0 {Γ : Gm} {d : Nat} {σ : AH} {Q : Oc → AH → Prop} {v0 : Nat} {v1 : Int32} {v2 : Int32} {v3 : Int32} {v4 : Int32} (h : ((Int32.toInt v1 = 1 → ((v3 ≠ 0 → Q (.inl (some (.int 1))) σ) ∧ (v3 = 0 → ((v4 = 0 → Q (.inl (some (.int 0))) σ) ∧ (¬ v4 = 0 → Q (.inl (some (.int 1))) σ))))) ∧ (Int32.toInt v1 = 2 → ((v3 = 0 → Q (.inl (some (.int 0))) σ) ∧ (¬ v3 = 0 → ((v4 ≠ 0 → Q (.inl (some (.int 0))) σ) ∧ (v4 = 0 → Q (.inl (some (.int 1))) σ))))) ∧ (Int32.toInt v1 = 3 → ((v3 = 0 → Q (.inl (some (.int 0))) σ) ∧ (¬ v3 = 0 → ((v4 = 0 → Q (.inl (some (.int 0))) σ) ∧ (¬ v4 = 0 → Q (.inl (some (.int 1))) σ))))) ∧ (Int32.toInt v1 = 4 → ((v3 = 0 → Q (.inl (some (.int 0))) σ) ∧ (¬ v3 = 0 → hs σ v0 = some (7, 27) ∧ ∃ t9 : Nat, gr σ v0 13 = some t9 ∧ ∃ n12 : Nat, hs σ t9 = some (23, n12) ∧ ∃ j13 : Nat, IX v2 n12 j13 ∧ (((lg_cmp (gj σ t9 j13) 1) ≠ 0 → Q (.inl (some (.int 0))) σ) ∧ ((lg_cmp (gj σ t9 j13) 1) = 0 → Q (.inl (some (.int 1))) σ))))) ∧ (Int32.toInt v1 = 5 → ((v3 = 0 → Q (.inl (some (.int 0))) σ) ∧ (¬ v3 = 0 → hs σ v0 = some (7, 27) ∧ ∃ t18 : Nat, gr σ v0 13 = some t18 ∧ ∃ n21 : Nat, hs σ t18 = some (23, n21) ∧ ∃ j22 : Nat, IX v2 n21 j22 ∧ (((lg_cmp (gj σ t18 j22) 1) ≠ 0 → Q (.inl (some (.int 0))) σ) ∧ ((lg_cmp (gj σ t18 j22) 1) = 0 → Q (.inl (some (.int 1))) σ))))) ∧ (Int32.toInt v1 = 6 → ((v3 = 0 → Q (.inl (some (.int 0))) σ) ∧ (¬ v3 = 0 → hs σ v0 = some (7, 27) ∧ ∃ t27 : Nat, gr σ v0 13 = some t27 ∧ ∃ n30 : Nat, hs σ t27 = some (23, n30) ∧ ∃ j31 : Nat, IX v2 n30 j31 ∧ (((lg_cmp (gj σ t27 j31) 1) ≠ 0 → Q (.inl (some (.int 0))) σ) ∧ ((lg_cmp (gj σ t27 j31) 1) = 0 → Q (.inl (some (.int 1))) σ))))) ∧ (Int32.toInt v1 = 7 → ((v3 = 0 → Q (.inl (some (.int 0))) σ) ∧ (¬ v3 = 0 → hs σ v0 = some (7, 27) ∧ ∃ t36 : Nat, gr σ v0 13 = some t36 ∧ ∃ n39 : Nat, hs σ t36 = some (23, n39) ∧ ∃ j40 : Nat, IX v2 n39 j40 ∧ (((lg_cmp (gj σ t36 j40) 1) ≠ 0 → Q (.inl (some (.int 0))) σ) ∧ ((lg_cmp (gj σ t36 j40) 1) = 0 → Q (.inl (some (.int 1))) σ))))) ∧ (Int32.toInt v1 = 8 → ((v3 = 0 → Q (.inl (some (.int 0))) σ) ∧ (¬ v3 = 0 → hs σ v0 = some (7, 27) ∧ ∃ t45 : Nat, gr σ v0 14 = some t45 ∧ ∃ n48 : Nat, hs σ t45 = some (23, n48) ∧ ∃ j49 : Nat, IX v2 n48 j49 ∧ (((lg_cmp (gj σ t45 j49) 0) ≤ 0 → Q (.inl (some (.int 0))) σ) ∧ (¬ (lg_cmp (gj σ t45 j49) 0) ≤ 0 → Q (.inl (some (.int 1))) σ))))) ∧ (Int32.toInt v1 = 9 → ((v3 = 0 → Q (.inl (some (.int 0))) σ) ∧ (¬ v3 = 0 → hs σ v0 = some (7, 27) ∧ ∃ t54 : Nat, gr σ v0 14 = some t54 ∧ ∃ n57 : Nat, hs σ t54 = some (23, n57) ∧ ∃ j58 : Nat, IX v2 n57 j58 ∧ (((lg_cmp (gj σ t54 j58) 0) ≤ 0 → Q (.inl (some (.int 0))) σ) ∧ (¬ (lg_cmp (gj σ t54 j58) 0) ≤ 0 → Q (.inl (some (.int 1))) σ))))) ∧ (Int32.toInt v1 = 10 → ((v3 = 0 → Q (.inl (some (.int 0))) σ) ∧ (¬ v3 = 0 → hs σ v0 = some (7, 27) ∧ ∃ t63 : Nat, gr σ v0 13 = some t63 ∧ ∃ n66 : Nat, hs σ t63 = some (23, n66) ∧ ∃ j67 : Nat, IX v2 n66 j67 ∧ (((lg_cmp (gj σ t63 j67) 1) ≠ 0 → Q (.inl (some (.int 0))) σ) ∧ ((lg_cmp (gj σ t63 j67) 1) = 0 → Q (.inl (some (.int 1))) σ))))) ∧ (Int32.toInt v1 = 11 → ((v3 = 0 → Q (.inl (some (.int 0))) σ) ∧ (¬ v3 = 0 → hs σ v0 = some (7, 27) ∧ ∃ t72 : Nat, gr σ v0 13 = some t72 ∧ ∃ n75 : Nat, hs σ t72 = some (23, n75) ∧ ∃ j76 : Nat, IX v2 n75 j76 ∧ (((lg_cmp (gj σ t72 j76) 1) ≠ 0 → Q (.inl (some (.int 0))) σ) ∧ ((lg_cmp (gj σ t72 j76) 1) = 0 → Q (.inl (some (.int 1))) σ))))) ∧ (Int32.toInt v1 = 12 → ((v3 = 0 → Q (.inl (some (.int 0))) σ) ∧ (¬ v3 = 0 → hs σ v0 = some (7, 27) ∧ ∃ t81 : Nat, gr σ v0 13 = some t81 ∧ ∃ n84 : Nat, hs σ t81 = some (23, n84) ∧ ∃ j85 : Nat, IX v2 n84 j85 ∧ (((lg_cmp (gj σ t81 j85) 1) ≠ 0 → Q (.inl (some (.int 0))) σ) ∧ ((lg_cmp (gj σ t81 j85) 1) = 0 → Q (.inl (some (.int 1))) σ))))) ∧ (Int32.toInt v1 = 13 → hs σ v0 = some (7, 27) ∧ ∃ t89 : Nat, gr σ v0 13 = some t89 ∧ ∃ n92 : Nat, hs σ t89 = some (23, n92) ∧ ∃ j93 : Nat, IX v2 n92 j93 ∧ (((lg_cmp (gj σ t89 j93) 0) ≤ 0 → Q (.inl (some (.int 0))) σ) ∧ (¬ (lg_cmp (gj σ t89 j93) 0) ≤ 0 → Q (.inl (some (.int 1))) σ))) ∧ (Int32.toInt v1 < 1 ∨ 13 < Int32.toInt v1 → ((v3 = 0 → Q (.inl (some (.int 0))) σ) ∧ (¬ v3 = 0 → hs σ v0 = some (7, 27) ∧ ∃ t98 : Nat, gr σ v0 13 = some t98 ∧ ∃ n101 : Nat, hs σ t98 = some (23, n101) ∧ ∃ j102 : Nat, IX v2 n101 j102 ∧ (((lg_cmp (gj σ t98 j102) 1) ≠ 0 → Q (.inl (some (.int 0))) σ) ∧ ((lg_cmp (gj σ t98 j102) 1) = 0 → Q (.inl (some (.int 1))) σ))))))) : EV Γ MX9_isKept d 0 [some (.ref v0), some (.int v1), some (.int v2), some (.int v3), some (.int v4)] [] σ Q := by
  refine EV.iload_n 1 rfl 1 rfl rfl dX9_isKept_0 ?_
  refine EV.tableswitch dX9_isKept_1 (fun j off c1 c2 ho => ?_) (fun j c1 c2 ho => ?_) (fun c1 => ?_)
  · match j, c1, ho with
    | 0, c1, ho =>
      cases ho
      refine ⟨68, rfl, ?_⟩
      have h := h.1 (by omega)
      refine EV.iload_n 69 rfl 3 rfl rfl dX9_isKept_68 ?_
      refine EV.if_ne 72 77 rfl (by decide) dX9_isKept_69 (fun c1 => ?_) (fun c1 => ?_)
      · have h := h.1 c1
        refine EV.iconst 78 rfl dX9_isKept_77 (v := 1) (by decide) ?_
        refine EV.goto 82 (by decide) dX9_isKept_78 ?_
        exact EV.zret rfl rfl dX9_isKept_82 h
      · have h := h.2 c1
        refine EV.iload 74 rfl rfl dX9_isKept_72 ?_
        refine EV.if_eq 77 81 rfl (by decide) dX9_isKept_74 (fun c2 => ?_) (fun c2 => ?_)
        · have h := h.1 c2
          refine EV.iconst 82 rfl dX9_isKept_81 (v := 0) (by decide) ?_
          exact EV.zret rfl rfl dX9_isKept_82 h
        · have h := h.2 c2
          refine EV.iconst 78 rfl dX9_isKept_77 (v := 1) (by decide) ?_
          refine EV.goto 82 (by decide) dX9_isKept_78 ?_
          exact EV.zret rfl rfl dX9_isKept_82 h
    | 1, c1, ho =>
      cases ho
      refine ⟨83, rfl, ?_⟩
      have h := h.2.1 (by omega)
      refine EV.iload_n 84 rfl 3 rfl rfl dX9_isKept_83 ?_
      refine EV.if_eq 87 96 rfl (by decide) dX9_isKept_84 (fun c3 => ?_) (fun c3 => ?_)
      · have h := h.1 c3
        refine EV.iconst 97 rfl dX9_isKept_96 (v := 0) (by decide) ?_
        exact EV.zret rfl rfl dX9_isKept_97 h
      · have h := h.2 c3
        refine EV.iload 89 rfl rfl dX9_isKept_87 ?_
        refine EV.if_ne 92 96 rfl (by decide) dX9_isKept_89 (fun c4 => ?_) (fun c4 => ?_)
        · have h := h.1 c4
          refine EV.iconst 97 rfl dX9_isKept_96 (v := 0) (by decide) ?_
          exact EV.zret rfl rfl dX9_isKept_97 h
        · have h := h.2 c4
          refine EV.iconst 93 rfl dX9_isKept_92 (v := 1) (by decide) ?_
          refine EV.goto 97 (by decide) dX9_isKept_93 ?_
          exact EV.zret rfl rfl dX9_isKept_97 h
    | 2, c1, ho =>
      cases ho
      refine ⟨98, rfl, ?_⟩
      have h := h.2.2.1 (by omega)
      refine EV.iload_n 99 rfl 3 rfl rfl dX9_isKept_98 ?_
      refine EV.if_eq 102 111 rfl (by decide) dX9_isKept_99 (fun c5 => ?_) (fun c5 => ?_)
      · have h := h.1 c5
        refine EV.iconst 112 rfl dX9_isKept_111 (v := 0) (by decide) ?_
        exact EV.zret rfl rfl dX9_isKept_112 h
      · have h := h.2 c5
        refine EV.iload 104 rfl rfl dX9_isKept_102 ?_
        refine EV.if_eq 107 111 rfl (by decide) dX9_isKept_104 (fun c6 => ?_) (fun c6 => ?_)
        · have h := h.1 c6
          refine EV.iconst 112 rfl dX9_isKept_111 (v := 0) (by decide) ?_
          exact EV.zret rfl rfl dX9_isKept_112 h
        · have h := h.2 c6
          refine EV.iconst 108 rfl dX9_isKept_107 (v := 1) (by decide) ?_
          refine EV.goto 112 (by decide) dX9_isKept_108 ?_
          exact EV.zret rfl rfl dX9_isKept_112 h
    | 3, c1, ho =>
      cases ho
      refine ⟨151, rfl, ?_⟩
      have h := h.2.2.2.1 (by omega)
      refine EV.iload_n 152 rfl 3 rfl rfl dX9_isKept_151 ?_
      refine EV.if_eq 155 170 rfl (by decide) dX9_isKept_152 (fun c7 => ?_) (fun c7 => ?_)
      · have h := h.1 c7
        refine EV.iconst 171 rfl dX9_isKept_170 (v := 0) (by decide) ?_
        exact EV.zret rfl rfl dX9_isKept_171 h
      · have h := h.2 c7
        refine EV.aload_n 156 rfl 0 rfl rfl dX9_isKept_155 ?_
        obtain ⟨w8, h⟩ := h
        obtain ⟨t9, g10, h⟩ := h
        refine EV.getR 159 rfl fl_X9_35 rfl dX9_isKept_156 w8 g10 ?_
        refine EV.iload_n 160 rfl 2 rfl rfl dX9_isKept_159 ?_
        obtain ⟨n12, w11, h⟩ := h
        obtain ⟨j13, x14, h⟩ := h
        refine EV.lald 161 rfl dX9_isKept_160 w11 x14 ?_
        refine EV.lconst 162 rfl dX9_isKept_161 (v := 1) (by decide) ?_
        refine EV.lcmp 163 rfl dX9_isKept_162 ?_
        refine EV.if_ne 166 170 rfl (by decide) dX9_isKept_163 (fun c15 => ?_) (fun c15 => ?_)
        · have h := h.1 c15
          refine EV.iconst 171 rfl dX9_isKept_170 (v := 0) (by decide) ?_
          exact EV.zret rfl rfl dX9_isKept_171 h
        · have h := h.2 c15
          refine EV.iconst 167 rfl dX9_isKept_166 (v := 1) (by decide) ?_
          refine EV.goto 171 (by decide) dX9_isKept_167 ?_
          exact EV.zret rfl rfl dX9_isKept_171 h
    | 4, c1, ho =>
      cases ho
      refine ⟨151, rfl, ?_⟩
      have h := h.2.2.2.2.1 (by omega)
      refine EV.iload_n 152 rfl 3 rfl rfl dX9_isKept_151 ?_
      refine EV.if_eq 155 170 rfl (by decide) dX9_isKept_152 (fun c16 => ?_) (fun c16 => ?_)
      · have h := h.1 c16
        refine EV.iconst 171 rfl dX9_isKept_170 (v := 0) (by decide) ?_
        exact EV.zret rfl rfl dX9_isKept_171 h
      · have h := h.2 c16
        refine EV.aload_n 156 rfl 0 rfl rfl dX9_isKept_155 ?_
        obtain ⟨w17, h⟩ := h
        obtain ⟨t18, g19, h⟩ := h
        refine EV.getR 159 rfl fl_X9_35 rfl dX9_isKept_156 w17 g19 ?_
        refine EV.iload_n 160 rfl 2 rfl rfl dX9_isKept_159 ?_
        obtain ⟨n21, w20, h⟩ := h
        obtain ⟨j22, x23, h⟩ := h
        refine EV.lald 161 rfl dX9_isKept_160 w20 x23 ?_
        refine EV.lconst 162 rfl dX9_isKept_161 (v := 1) (by decide) ?_
        refine EV.lcmp 163 rfl dX9_isKept_162 ?_
        refine EV.if_ne 166 170 rfl (by decide) dX9_isKept_163 (fun c24 => ?_) (fun c24 => ?_)
        · have h := h.1 c24
          refine EV.iconst 171 rfl dX9_isKept_170 (v := 0) (by decide) ?_
          exact EV.zret rfl rfl dX9_isKept_171 h
        · have h := h.2 c24
          refine EV.iconst 167 rfl dX9_isKept_166 (v := 1) (by decide) ?_
          refine EV.goto 171 (by decide) dX9_isKept_167 ?_
          exact EV.zret rfl rfl dX9_isKept_171 h
    | 5, c1, ho =>
      cases ho
      refine ⟨151, rfl, ?_⟩
      have h := h.2.2.2.2.2.1 (by omega)
      refine EV.iload_n 152 rfl 3 rfl rfl dX9_isKept_151 ?_
      refine EV.if_eq 155 170 rfl (by decide) dX9_isKept_152 (fun c25 => ?_) (fun c25 => ?_)
      · have h := h.1 c25
        refine EV.iconst 171 rfl dX9_isKept_170 (v := 0) (by decide) ?_
        exact EV.zret rfl rfl dX9_isKept_171 h
      · have h := h.2 c25
        refine EV.aload_n 156 rfl 0 rfl rfl dX9_isKept_155 ?_
        obtain ⟨w26, h⟩ := h
        obtain ⟨t27, g28, h⟩ := h
        refine EV.getR 159 rfl fl_X9_35 rfl dX9_isKept_156 w26 g28 ?_
        refine EV.iload_n 160 rfl 2 rfl rfl dX9_isKept_159 ?_
        obtain ⟨n30, w29, h⟩ := h
        obtain ⟨j31, x32, h⟩ := h
        refine EV.lald 161 rfl dX9_isKept_160 w29 x32 ?_
        refine EV.lconst 162 rfl dX9_isKept_161 (v := 1) (by decide) ?_
        refine EV.lcmp 163 rfl dX9_isKept_162 ?_
        refine EV.if_ne 166 170 rfl (by decide) dX9_isKept_163 (fun c33 => ?_) (fun c33 => ?_)
        · have h := h.1 c33
          refine EV.iconst 171 rfl dX9_isKept_170 (v := 0) (by decide) ?_
          exact EV.zret rfl rfl dX9_isKept_171 h
        · have h := h.2 c33
          refine EV.iconst 167 rfl dX9_isKept_166 (v := 1) (by decide) ?_
          refine EV.goto 171 (by decide) dX9_isKept_167 ?_
          exact EV.zret rfl rfl dX9_isKept_171 h
    | 6, c1, ho =>
      cases ho
      refine ⟨151, rfl, ?_⟩
      have h := h.2.2.2.2.2.2.1 (by omega)
      refine EV.iload_n 152 rfl 3 rfl rfl dX9_isKept_151 ?_
      refine EV.if_eq 155 170 rfl (by decide) dX9_isKept_152 (fun c34 => ?_) (fun c34 => ?_)
      · have h := h.1 c34
        refine EV.iconst 171 rfl dX9_isKept_170 (v := 0) (by decide) ?_
        exact EV.zret rfl rfl dX9_isKept_171 h
      · have h := h.2 c34
        refine EV.aload_n 156 rfl 0 rfl rfl dX9_isKept_155 ?_
        obtain ⟨w35, h⟩ := h
        obtain ⟨t36, g37, h⟩ := h
        refine EV.getR 159 rfl fl_X9_35 rfl dX9_isKept_156 w35 g37 ?_
        refine EV.iload_n 160 rfl 2 rfl rfl dX9_isKept_159 ?_
        obtain ⟨n39, w38, h⟩ := h
        obtain ⟨j40, x41, h⟩ := h
        refine EV.lald 161 rfl dX9_isKept_160 w38 x41 ?_
        refine EV.lconst 162 rfl dX9_isKept_161 (v := 1) (by decide) ?_
        refine EV.lcmp 163 rfl dX9_isKept_162 ?_
        refine EV.if_ne 166 170 rfl (by decide) dX9_isKept_163 (fun c42 => ?_) (fun c42 => ?_)
        · have h := h.1 c42
          refine EV.iconst 171 rfl dX9_isKept_170 (v := 0) (by decide) ?_
          exact EV.zret rfl rfl dX9_isKept_171 h
        · have h := h.2 c42
          refine EV.iconst 167 rfl dX9_isKept_166 (v := 1) (by decide) ?_
          refine EV.goto 171 (by decide) dX9_isKept_167 ?_
          exact EV.zret rfl rfl dX9_isKept_171 h
    | 7, c1, ho =>
      cases ho
      refine ⟨130, rfl, ?_⟩
      have h := h.2.2.2.2.2.2.2.1 (by omega)
      refine EV.iload_n 131 rfl 3 rfl rfl dX9_isKept_130 ?_
      refine EV.if_eq 134 149 rfl (by decide) dX9_isKept_131 (fun c43 => ?_) (fun c43 => ?_)
      · have h := h.1 c43
        refine EV.iconst 150 rfl dX9_isKept_149 (v := 0) (by decide) ?_
        exact EV.zret rfl rfl dX9_isKept_150 h
      · have h := h.2 c43
        refine EV.aload_n 135 rfl 0 rfl rfl dX9_isKept_134 ?_
        obtain ⟨w44, h⟩ := h
        obtain ⟨t45, g46, h⟩ := h
        refine EV.getR 138 rfl fl_X9_38 rfl dX9_isKept_135 w44 g46 ?_
        refine EV.iload_n 139 rfl 2 rfl rfl dX9_isKept_138 ?_
        obtain ⟨n48, w47, h⟩ := h
        obtain ⟨j49, x50, h⟩ := h
        refine EV.lald 140 rfl dX9_isKept_139 w47 x50 ?_
        refine EV.lconst 141 rfl dX9_isKept_140 (v := 0) (by decide) ?_
        refine EV.lcmp 142 rfl dX9_isKept_141 ?_
        refine EV.if_le 145 149 rfl (by decide) dX9_isKept_142 (fun c51 => ?_) (fun c51 => ?_)
        · have h := h.1 c51
          refine EV.iconst 150 rfl dX9_isKept_149 (v := 0) (by decide) ?_
          exact EV.zret rfl rfl dX9_isKept_150 h
        · have h := h.2 c51
          refine EV.iconst 146 rfl dX9_isKept_145 (v := 1) (by decide) ?_
          refine EV.goto 150 (by decide) dX9_isKept_146 ?_
          exact EV.zret rfl rfl dX9_isKept_150 h
    | 8, c1, ho =>
      cases ho
      refine ⟨130, rfl, ?_⟩
      have h := h.2.2.2.2.2.2.2.2.1 (by omega)
      refine EV.iload_n 131 rfl 3 rfl rfl dX9_isKept_130 ?_
      refine EV.if_eq 134 149 rfl (by decide) dX9_isKept_131 (fun c52 => ?_) (fun c52 => ?_)
      · have h := h.1 c52
        refine EV.iconst 150 rfl dX9_isKept_149 (v := 0) (by decide) ?_
        exact EV.zret rfl rfl dX9_isKept_150 h
      · have h := h.2 c52
        refine EV.aload_n 135 rfl 0 rfl rfl dX9_isKept_134 ?_
        obtain ⟨w53, h⟩ := h
        obtain ⟨t54, g55, h⟩ := h
        refine EV.getR 138 rfl fl_X9_38 rfl dX9_isKept_135 w53 g55 ?_
        refine EV.iload_n 139 rfl 2 rfl rfl dX9_isKept_138 ?_
        obtain ⟨n57, w56, h⟩ := h
        obtain ⟨j58, x59, h⟩ := h
        refine EV.lald 140 rfl dX9_isKept_139 w56 x59 ?_
        refine EV.lconst 141 rfl dX9_isKept_140 (v := 0) (by decide) ?_
        refine EV.lcmp 142 rfl dX9_isKept_141 ?_
        refine EV.if_le 145 149 rfl (by decide) dX9_isKept_142 (fun c60 => ?_) (fun c60 => ?_)
        · have h := h.1 c60
          refine EV.iconst 150 rfl dX9_isKept_149 (v := 0) (by decide) ?_
          exact EV.zret rfl rfl dX9_isKept_150 h
        · have h := h.2 c60
          refine EV.iconst 146 rfl dX9_isKept_145 (v := 1) (by decide) ?_
          refine EV.goto 150 (by decide) dX9_isKept_146 ?_
          exact EV.zret rfl rfl dX9_isKept_150 h
    | 9, c1, ho =>
      cases ho
      refine ⟨151, rfl, ?_⟩
      have h := h.2.2.2.2.2.2.2.2.2.1 (by omega)
      refine EV.iload_n 152 rfl 3 rfl rfl dX9_isKept_151 ?_
      refine EV.if_eq 155 170 rfl (by decide) dX9_isKept_152 (fun c61 => ?_) (fun c61 => ?_)
      · have h := h.1 c61
        refine EV.iconst 171 rfl dX9_isKept_170 (v := 0) (by decide) ?_
        exact EV.zret rfl rfl dX9_isKept_171 h
      · have h := h.2 c61
        refine EV.aload_n 156 rfl 0 rfl rfl dX9_isKept_155 ?_
        obtain ⟨w62, h⟩ := h
        obtain ⟨t63, g64, h⟩ := h
        refine EV.getR 159 rfl fl_X9_35 rfl dX9_isKept_156 w62 g64 ?_
        refine EV.iload_n 160 rfl 2 rfl rfl dX9_isKept_159 ?_
        obtain ⟨n66, w65, h⟩ := h
        obtain ⟨j67, x68, h⟩ := h
        refine EV.lald 161 rfl dX9_isKept_160 w65 x68 ?_
        refine EV.lconst 162 rfl dX9_isKept_161 (v := 1) (by decide) ?_
        refine EV.lcmp 163 rfl dX9_isKept_162 ?_
        refine EV.if_ne 166 170 rfl (by decide) dX9_isKept_163 (fun c69 => ?_) (fun c69 => ?_)
        · have h := h.1 c69
          refine EV.iconst 171 rfl dX9_isKept_170 (v := 0) (by decide) ?_
          exact EV.zret rfl rfl dX9_isKept_171 h
        · have h := h.2 c69
          refine EV.iconst 167 rfl dX9_isKept_166 (v := 1) (by decide) ?_
          refine EV.goto 171 (by decide) dX9_isKept_167 ?_
          exact EV.zret rfl rfl dX9_isKept_171 h
    | 10, c1, ho =>
      cases ho
      refine ⟨151, rfl, ?_⟩
      have h := h.2.2.2.2.2.2.2.2.2.2.1 (by omega)
      refine EV.iload_n 152 rfl 3 rfl rfl dX9_isKept_151 ?_
      refine EV.if_eq 155 170 rfl (by decide) dX9_isKept_152 (fun c70 => ?_) (fun c70 => ?_)
      · have h := h.1 c70
        refine EV.iconst 171 rfl dX9_isKept_170 (v := 0) (by decide) ?_
        exact EV.zret rfl rfl dX9_isKept_171 h
      · have h := h.2 c70
        refine EV.aload_n 156 rfl 0 rfl rfl dX9_isKept_155 ?_
        obtain ⟨w71, h⟩ := h
        obtain ⟨t72, g73, h⟩ := h
        refine EV.getR 159 rfl fl_X9_35 rfl dX9_isKept_156 w71 g73 ?_
        refine EV.iload_n 160 rfl 2 rfl rfl dX9_isKept_159 ?_
        obtain ⟨n75, w74, h⟩ := h
        obtain ⟨j76, x77, h⟩ := h
        refine EV.lald 161 rfl dX9_isKept_160 w74 x77 ?_
        refine EV.lconst 162 rfl dX9_isKept_161 (v := 1) (by decide) ?_
        refine EV.lcmp 163 rfl dX9_isKept_162 ?_
        refine EV.if_ne 166 170 rfl (by decide) dX9_isKept_163 (fun c78 => ?_) (fun c78 => ?_)
        · have h := h.1 c78
          refine EV.iconst 171 rfl dX9_isKept_170 (v := 0) (by decide) ?_
          exact EV.zret rfl rfl dX9_isKept_171 h
        · have h := h.2 c78
          refine EV.iconst 167 rfl dX9_isKept_166 (v := 1) (by decide) ?_
          refine EV.goto 171 (by decide) dX9_isKept_167 ?_
          exact EV.zret rfl rfl dX9_isKept_171 h
    | 11, c1, ho =>
      cases ho
      refine ⟨151, rfl, ?_⟩
      have h := h.2.2.2.2.2.2.2.2.2.2.2.1 (by omega)
      refine EV.iload_n 152 rfl 3 rfl rfl dX9_isKept_151 ?_
      refine EV.if_eq 155 170 rfl (by decide) dX9_isKept_152 (fun c79 => ?_) (fun c79 => ?_)
      · have h := h.1 c79
        refine EV.iconst 171 rfl dX9_isKept_170 (v := 0) (by decide) ?_
        exact EV.zret rfl rfl dX9_isKept_171 h
      · have h := h.2 c79
        refine EV.aload_n 156 rfl 0 rfl rfl dX9_isKept_155 ?_
        obtain ⟨w80, h⟩ := h
        obtain ⟨t81, g82, h⟩ := h
        refine EV.getR 159 rfl fl_X9_35 rfl dX9_isKept_156 w80 g82 ?_
        refine EV.iload_n 160 rfl 2 rfl rfl dX9_isKept_159 ?_
        obtain ⟨n84, w83, h⟩ := h
        obtain ⟨j85, x86, h⟩ := h
        refine EV.lald 161 rfl dX9_isKept_160 w83 x86 ?_
        refine EV.lconst 162 rfl dX9_isKept_161 (v := 1) (by decide) ?_
        refine EV.lcmp 163 rfl dX9_isKept_162 ?_
        refine EV.if_ne 166 170 rfl (by decide) dX9_isKept_163 (fun c87 => ?_) (fun c87 => ?_)
        · have h := h.1 c87
          refine EV.iconst 171 rfl dX9_isKept_170 (v := 0) (by decide) ?_
          exact EV.zret rfl rfl dX9_isKept_171 h
        · have h := h.2 c87
          refine EV.iconst 167 rfl dX9_isKept_166 (v := 1) (by decide) ?_
          refine EV.goto 171 (by decide) dX9_isKept_167 ?_
          exact EV.zret rfl rfl dX9_isKept_171 h
    | 12, c1, ho =>
      cases ho
      refine ⟨113, rfl, ?_⟩
      have h := h.2.2.2.2.2.2.2.2.2.2.2.2.1 (by omega)
      refine EV.aload_n 114 rfl 0 rfl rfl dX9_isKept_113 ?_
      obtain ⟨w88, h⟩ := h
      obtain ⟨t89, g90, h⟩ := h
      refine EV.getR 117 rfl fl_X9_35 rfl dX9_isKept_114 w88 g90 ?_
      refine EV.iload_n 118 rfl 2 rfl rfl dX9_isKept_117 ?_
      obtain ⟨n92, w91, h⟩ := h
      obtain ⟨j93, x94, h⟩ := h
      refine EV.lald 119 rfl dX9_isKept_118 w91 x94 ?_
      refine EV.lconst 120 rfl dX9_isKept_119 (v := 0) (by decide) ?_
      refine EV.lcmp 121 rfl dX9_isKept_120 ?_
      refine EV.if_le 124 128 rfl (by decide) dX9_isKept_121 (fun c95 => ?_) (fun c95 => ?_)
      · have h := h.1 c95
        refine EV.iconst 129 rfl dX9_isKept_128 (v := 0) (by decide) ?_
        exact EV.zret rfl rfl dX9_isKept_129 h
      · have h := h.2 c95
        refine EV.iconst 125 rfl dX9_isKept_124 (v := 1) (by decide) ?_
        refine EV.goto 129 (by decide) dX9_isKept_125 ?_
        exact EV.zret rfl rfl dX9_isKept_129 h
    | j + 13, c1, ho => exact absurd c2 (by omega)
  · match j, c1, ho with
    | 0, c1, ho => cases ho
    | 1, c1, ho => cases ho
    | 2, c1, ho => cases ho
    | 3, c1, ho => cases ho
    | 4, c1, ho => cases ho
    | 5, c1, ho => cases ho
    | 6, c1, ho => cases ho
    | 7, c1, ho => cases ho
    | 8, c1, ho => cases ho
    | 9, c1, ho => cases ho
    | 10, c1, ho => cases ho
    | 11, c1, ho => cases ho
    | 12, c1, ho => cases ho
    | j + 13, c1, ho => exact absurd c2 (by omega)
  · refine ⟨151, rfl, ?_⟩
    have h := h.2.2.2.2.2.2.2.2.2.2.2.2.2 c1
    refine EV.iload_n 152 rfl 3 rfl rfl dX9_isKept_151 ?_
    refine EV.if_eq 155 170 rfl (by decide) dX9_isKept_152 (fun c96 => ?_) (fun c96 => ?_)
    · have h := h.1 c96
      refine EV.iconst 171 rfl dX9_isKept_170 (v := 0) (by decide) ?_
      exact EV.zret rfl rfl dX9_isKept_171 h
    · have h := h.2 c96
      refine EV.aload_n 156 rfl 0 rfl rfl dX9_isKept_155 ?_
      obtain ⟨w97, h⟩ := h
      obtain ⟨t98, g99, h⟩ := h
      refine EV.getR 159 rfl fl_X9_35 rfl dX9_isKept_156 w97 g99 ?_
      refine EV.iload_n 160 rfl 2 rfl rfl dX9_isKept_159 ?_
      obtain ⟨n101, w100, h⟩ := h
      obtain ⟨j102, x103, h⟩ := h
      refine EV.lald 161 rfl dX9_isKept_160 w100 x103 ?_
      refine EV.lconst 162 rfl dX9_isKept_161 (v := 1) (by decide) ?_
      refine EV.lcmp 163 rfl dX9_isKept_162 ?_
      refine EV.if_ne 166 170 rfl (by decide) dX9_isKept_163 (fun c104 => ?_) (fun c104 => ?_)
      · have h := h.1 c104
        refine EV.iconst 171 rfl dX9_isKept_170 (v := 0) (by decide) ?_
        exact EV.zret rfl rfl dX9_isKept_171 h
      · have h := h.2 c104
        refine EV.iconst 167 rfl dX9_isKept_166 (v := 1) (by decide) ?_
        refine EV.goto 171 (by decide) dX9_isKept_167 ?_
        exact EV.zret rfl rfl dX9_isKept_171 h
theorem eX9_isKept {Γ : Gm} {d : Nat} {σ : AH} {Q : Oc → AH → Prop} {v0 : Nat} {v1 : Int32} {v2 : Int32} {v3 : Int32} {v4 : Int32} (h : ((Int32.toInt v1 = 1 → ((v3 ≠ 0 → Q (.inl (some (.int 1))) σ) ∧ (v3 = 0 → ((v4 = 0 → Q (.inl (some (.int 0))) σ) ∧ (¬ v4 = 0 → Q (.inl (some (.int 1))) σ))))) ∧ (Int32.toInt v1 = 2 → ((v3 = 0 → Q (.inl (some (.int 0))) σ) ∧ (¬ v3 = 0 → ((v4 ≠ 0 → Q (.inl (some (.int 0))) σ) ∧ (v4 = 0 → Q (.inl (some (.int 1))) σ))))) ∧ (Int32.toInt v1 = 3 → ((v3 = 0 → Q (.inl (some (.int 0))) σ) ∧ (¬ v3 = 0 → ((v4 = 0 → Q (.inl (some (.int 0))) σ) ∧ (¬ v4 = 0 → Q (.inl (some (.int 1))) σ))))) ∧ (Int32.toInt v1 = 4 → ((v3 = 0 → Q (.inl (some (.int 0))) σ) ∧ (¬ v3 = 0 → hs σ v0 = some (7, 27) ∧ ∃ t9 : Nat, gr σ v0 13 = some t9 ∧ ∃ n12 : Nat, hs σ t9 = some (23, n12) ∧ ∃ j13 : Nat, IX v2 n12 j13 ∧ (((lg_cmp (gj σ t9 j13) 1) ≠ 0 → Q (.inl (some (.int 0))) σ) ∧ ((lg_cmp (gj σ t9 j13) 1) = 0 → Q (.inl (some (.int 1))) σ))))) ∧ (Int32.toInt v1 = 5 → ((v3 = 0 → Q (.inl (some (.int 0))) σ) ∧ (¬ v3 = 0 → hs σ v0 = some (7, 27) ∧ ∃ t18 : Nat, gr σ v0 13 = some t18 ∧ ∃ n21 : Nat, hs σ t18 = some (23, n21) ∧ ∃ j22 : Nat, IX v2 n21 j22 ∧ (((lg_cmp (gj σ t18 j22) 1) ≠ 0 → Q (.inl (some (.int 0))) σ) ∧ ((lg_cmp (gj σ t18 j22) 1) = 0 → Q (.inl (some (.int 1))) σ))))) ∧ (Int32.toInt v1 = 6 → ((v3 = 0 → Q (.inl (some (.int 0))) σ) ∧ (¬ v3 = 0 → hs σ v0 = some (7, 27) ∧ ∃ t27 : Nat, gr σ v0 13 = some t27 ∧ ∃ n30 : Nat, hs σ t27 = some (23, n30) ∧ ∃ j31 : Nat, IX v2 n30 j31 ∧ (((lg_cmp (gj σ t27 j31) 1) ≠ 0 → Q (.inl (some (.int 0))) σ) ∧ ((lg_cmp (gj σ t27 j31) 1) = 0 → Q (.inl (some (.int 1))) σ))))) ∧ (Int32.toInt v1 = 7 → ((v3 = 0 → Q (.inl (some (.int 0))) σ) ∧ (¬ v3 = 0 → hs σ v0 = some (7, 27) ∧ ∃ t36 : Nat, gr σ v0 13 = some t36 ∧ ∃ n39 : Nat, hs σ t36 = some (23, n39) ∧ ∃ j40 : Nat, IX v2 n39 j40 ∧ (((lg_cmp (gj σ t36 j40) 1) ≠ 0 → Q (.inl (some (.int 0))) σ) ∧ ((lg_cmp (gj σ t36 j40) 1) = 0 → Q (.inl (some (.int 1))) σ))))) ∧ (Int32.toInt v1 = 8 → ((v3 = 0 → Q (.inl (some (.int 0))) σ) ∧ (¬ v3 = 0 → hs σ v0 = some (7, 27) ∧ ∃ t45 : Nat, gr σ v0 14 = some t45 ∧ ∃ n48 : Nat, hs σ t45 = some (23, n48) ∧ ∃ j49 : Nat, IX v2 n48 j49 ∧ (((lg_cmp (gj σ t45 j49) 0) ≤ 0 → Q (.inl (some (.int 0))) σ) ∧ (¬ (lg_cmp (gj σ t45 j49) 0) ≤ 0 → Q (.inl (some (.int 1))) σ))))) ∧ (Int32.toInt v1 = 9 → ((v3 = 0 → Q (.inl (some (.int 0))) σ) ∧ (¬ v3 = 0 → hs σ v0 = some (7, 27) ∧ ∃ t54 : Nat, gr σ v0 14 = some t54 ∧ ∃ n57 : Nat, hs σ t54 = some (23, n57) ∧ ∃ j58 : Nat, IX v2 n57 j58 ∧ (((lg_cmp (gj σ t54 j58) 0) ≤ 0 → Q (.inl (some (.int 0))) σ) ∧ (¬ (lg_cmp (gj σ t54 j58) 0) ≤ 0 → Q (.inl (some (.int 1))) σ))))) ∧ (Int32.toInt v1 = 10 → ((v3 = 0 → Q (.inl (some (.int 0))) σ) ∧ (¬ v3 = 0 → hs σ v0 = some (7, 27) ∧ ∃ t63 : Nat, gr σ v0 13 = some t63 ∧ ∃ n66 : Nat, hs σ t63 = some (23, n66) ∧ ∃ j67 : Nat, IX v2 n66 j67 ∧ (((lg_cmp (gj σ t63 j67) 1) ≠ 0 → Q (.inl (some (.int 0))) σ) ∧ ((lg_cmp (gj σ t63 j67) 1) = 0 → Q (.inl (some (.int 1))) σ))))) ∧ (Int32.toInt v1 = 11 → ((v3 = 0 → Q (.inl (some (.int 0))) σ) ∧ (¬ v3 = 0 → hs σ v0 = some (7, 27) ∧ ∃ t72 : Nat, gr σ v0 13 = some t72 ∧ ∃ n75 : Nat, hs σ t72 = some (23, n75) ∧ ∃ j76 : Nat, IX v2 n75 j76 ∧ (((lg_cmp (gj σ t72 j76) 1) ≠ 0 → Q (.inl (some (.int 0))) σ) ∧ ((lg_cmp (gj σ t72 j76) 1) = 0 → Q (.inl (some (.int 1))) σ))))) ∧ (Int32.toInt v1 = 12 → ((v3 = 0 → Q (.inl (some (.int 0))) σ) ∧ (¬ v3 = 0 → hs σ v0 = some (7, 27) ∧ ∃ t81 : Nat, gr σ v0 13 = some t81 ∧ ∃ n84 : Nat, hs σ t81 = some (23, n84) ∧ ∃ j85 : Nat, IX v2 n84 j85 ∧ (((lg_cmp (gj σ t81 j85) 1) ≠ 0 → Q (.inl (some (.int 0))) σ) ∧ ((lg_cmp (gj σ t81 j85) 1) = 0 → Q (.inl (some (.int 1))) σ))))) ∧ (Int32.toInt v1 = 13 → hs σ v0 = some (7, 27) ∧ ∃ t89 : Nat, gr σ v0 13 = some t89 ∧ ∃ n92 : Nat, hs σ t89 = some (23, n92) ∧ ∃ j93 : Nat, IX v2 n92 j93 ∧ (((lg_cmp (gj σ t89 j93) 0) ≤ 0 → Q (.inl (some (.int 0))) σ) ∧ (¬ (lg_cmp (gj σ t89 j93) 0) ≤ 0 → Q (.inl (some (.int 1))) σ))) ∧ (Int32.toInt v1 < 1 ∨ 13 < Int32.toInt v1 → ((v3 = 0 → Q (.inl (some (.int 0))) σ) ∧ (¬ v3 = 0 → hs σ v0 = some (7, 27) ∧ ∃ t98 : Nat, gr σ v0 13 = some t98 ∧ ∃ n101 : Nat, hs σ t98 = some (23, n101) ∧ ∃ j102 : Nat, IX v2 n101 j102 ∧ (((lg_cmp (gj σ t98 j102) 1) ≠ 0 → Q (.inl (some (.int 0))) σ) ∧ ((lg_cmp (gj σ t98 j102) 1) = 0 → Q (.inl (some (.int 1))) σ))))))) : RUN Γ d MX9_isKept [.ref v0, .int v1, .int v2, .int v3, .int v4] σ Q :=
  EV.enter [some (.ref v0), some (.int v1), some (.int v2), some (.int v3), some (.int v4)] rfl (by decide +kernel) (Nat.le_of_ble_eq_true rfl) rfl (gX9_isKept_0 h)
theorem gX9_clearNodes_0 {Γ : Gm} {d : Nat} {σ : AH} {Q : Oc → AH → Prop} {v0 : Nat} (h : hs σ v0 = some (7, 27) ∧ ∀ σ2 : AH, σ2 = setI σ v0 20 0 → EV Γ MX9_clearNodes d 7 [some (.ref v0), some (.int 0)] [] σ2 Q) : EV Γ MX9_clearNodes d 0 [some (.ref v0), none] [] σ Q := by
  refine EV.aload_n 1 rfl 0 rfl rfl dX9_clearNodes_0 ?_
  refine EV.iconst 2 rfl dX9_clearNodes_1 (v := 0) (by decide) ?_
  obtain ⟨w1, h⟩ := h
  refine EV.putI 5 rfl fw_X9_111 rfl (by decide) dX9_clearNodes_2 w1 (EV.nm (fun σ2 e3 => ?_))
  have h := h σ2 e3
  have w4 := tr_hs (hs_setI_of e3) w1
  refine EV.iconst 6 rfl dX9_clearNodes_5 (v := 0) (by decide) ?_
  refine EV.istore_n 7 rfl 1 [some (.ref v0), some (.int 0)] rfl (by decide) rfl dX9_clearNodes_6 ?_
  exact h
theorem eX9_clearNodes {Γ : Gm} {d : Nat} {σ : AH} {Q : Oc → AH → Prop} {v0 : Nat} (h : hs σ v0 = some (7, 27) ∧ ∀ σ2 : AH, σ2 = setI σ v0 20 0 → EV Γ MX9_clearNodes d 7 [some (.ref v0), some (.int 0)] [] σ2 Q) : RUN Γ d MX9_clearNodes [.ref v0] σ Q :=
  EV.enter [some (.ref v0), none] rfl (by decide +kernel) (Nat.le_of_ble_eq_true rfl) rfl (gX9_clearNodes_0 h)
theorem gX9_clearNodes_7 {Γ : Gm} {d : Nat} {σ : AH} {Q : Oc → AH → Prop} {v0 : Nat} {v1 : Int32} (h : hs σ v0 = some (7, 27) ∧ ∃ t2 : Nat, gr σ v0 19 = some t2 ∧ ∃ n5 : Nat, hs σ t2 = some (22, n5) ∧ (((nI n5) ≤ v1 → Q (.inl none) σ) ∧ (¬ (nI n5) ≤ v1 → ∃ j7 : Nat, IX v1 n5 j7 ∧ ∀ σ9 : AH, σ9 = setI σ t2 j7 (-1) → EV Γ MX9_clearNodes d 7 [some (.ref v0), some (.int (v1 + 1))] [] σ9 Q))) : EV Γ MX9_clearNodes d 7 [some (.ref v0), some (.int v1)] [] σ Q := by
  refine EV.iload_n 8 rfl 1 rfl rfl dX9_clearNodes_7 ?_
  refine EV.aload_n 9 rfl 0 rfl rfl dX9_clearNodes_8 ?_
  obtain ⟨w1, h⟩ := h
  obtain ⟨t2, g3, h⟩ := h
  refine EV.getR 12 rfl fl_X9_53 rfl dX9_clearNodes_9 w1 g3 ?_
  obtain ⟨n5, w4, h⟩ := h
  refine EV.alenI 13 rfl dX9_clearNodes_12 w4 ?_
  refine EV.icmp_ge 16 29 rfl (by decide) dX9_clearNodes_13 (fun c6 => ?_) (fun c6 => ?_)
  · have h := h.1 c6
    exact EV.vret rfl dX9_clearNodes_29 h
  · have h := h.2 c6
    refine EV.aload_n 17 rfl 0 rfl rfl dX9_clearNodes_16 ?_
    refine EV.getR 20 rfl fl_X9_53 rfl dX9_clearNodes_17 w1 g3 ?_
    refine EV.iload_n 21 rfl 1 rfl rfl dX9_clearNodes_20 ?_
    refine EV.iconst 22 rfl dX9_clearNodes_21 (v := (-1)) (by decide) ?_
    obtain ⟨j7, x8, h⟩ := h
    refine EV.iast 23 rfl dX9_clearNodes_22 w4 x8 (EV.nm (fun σ9 e10 => ?_))
    have h := h σ9 e10
    have w11 := tr_hs (hs_setI_of e10) w1
    have w12 := tr_hs (hs_setI_of e10) w4
    have g13 := tr_gr (gr_setI_of e10) g3
    refine EV.iinc 26 rfl [some (.ref v0), some (.int (v1 + 1))] (v := 1) (by decide) (by decide) rfl rfl dX9_clearNodes_23 ?_
    refine EV.goto 7 (by decide) dX9_clearNodes_26 ?_
    exact h
theorem gX9_nodeOf_0 {Γ : Gm} {d : Nat} {σ : AH} {Q : Oc → AH → Prop} {v0 : Nat} {v1 : Int32} {v2 : Int32} {v3 : Int32} (h : ((v3 ≠ 0 → hs σ v0 = some (7, 27) ∧ ∃ t3 : Nat, gr σ v0 19 = some t3 ∧ ∃ n6 : Nat, hs σ t3 = some (22, n6) ∧ EV Γ MX9_nodeOf d 36 [some (.ref v0), some (.int v1), some (.int v2), some (.int v3), some (.int ((((((v1 * 1000003) + (v2 * 8191)) + (v3 * 31)) * 40503).toUInt32 >>> (Int32.toUInt32 3 &&& Int32.toUInt32 31)).toInt32 &&& ((nI n6) - 1)))] [] σ Q) ∧ (v3 = 0 → Q (.inl (some (.int v2))) σ))) : EV Γ MX9_nodeOf d 0 [some (.ref v0), some (.int v1), some (.int v2), some (.int v3), none] [] σ Q := by
  refine EV.iload_n 1 rfl 3 rfl rfl dX9_nodeOf_0 ?_
  refine EV.if_ne 4 6 rfl (by decide) dX9_nodeOf_1 (fun c1 => ?_) (fun c1 => ?_)
  · have h := h.1 c1
    refine EV.iload_n 7 rfl 1 rfl rfl dX9_nodeOf_6 ?_
    refine EV.ldc 9 rfl k_X9_114 dX9_nodeOf_7 ?_
    refine EV.imul 10 rfl dX9_nodeOf_9 ?_
    refine EV.iload_n 11 rfl 2 rfl rfl dX9_nodeOf_10 ?_
    refine EV.sipush 14 rfl dX9_nodeOf_11 (v := 8191) (by decide) ?_
    refine EV.imul 15 rfl dX9_nodeOf_14 ?_
    refine EV.iadd 16 rfl dX9_nodeOf_15 ?_
    refine EV.iload_n 17 rfl 3 rfl rfl dX9_nodeOf_16 ?_
    refine EV.bipush 19 rfl dX9_nodeOf_17 (v := 31) (by decide) ?_
    refine EV.imul 20 rfl dX9_nodeOf_19 ?_
    refine EV.iadd 21 rfl dX9_nodeOf_20 ?_
    refine EV.ldc 23 rfl k_X9_115 dX9_nodeOf_21 ?_
    refine EV.imul 24 rfl dX9_nodeOf_23 ?_
    refine EV.iconst 25 rfl dX9_nodeOf_24 (v := 3) (by decide) ?_
    refine EV.iushr 26 rfl dX9_nodeOf_25 ?_
    refine EV.aload_n 27 rfl 0 rfl rfl dX9_nodeOf_26 ?_
    obtain ⟨w2, h⟩ := h
    obtain ⟨t3, g4, h⟩ := h
    refine EV.getR 30 rfl fl_X9_53 rfl dX9_nodeOf_27 w2 g4 ?_
    obtain ⟨n6, w5, h⟩ := h
    refine EV.alenI 31 rfl dX9_nodeOf_30 w5 ?_
    refine EV.iconst 32 rfl dX9_nodeOf_31 (v := 1) (by decide) ?_
    refine EV.isub 33 rfl dX9_nodeOf_32 ?_
    refine EV.iand 34 rfl dX9_nodeOf_33 ?_
    refine EV.istore 36 rfl [some (.ref v0), some (.int v1), some (.int v2), some (.int v3), some (.int ((((((v1 * 1000003) + (v2 * 8191)) + (v3 * 31)) * 40503).toUInt32 >>> (Int32.toUInt32 3 &&& Int32.toUInt32 31)).toInt32 &&& ((nI n6) - 1)))] (by decide) rfl dX9_nodeOf_34 ?_
    exact h
  · have h := h.2 c1
    refine EV.iload_n 5 rfl 2 rfl rfl dX9_nodeOf_4 ?_
    exact EV.iret rfl dX9_nodeOf_5 h
theorem eX9_nodeOf {Γ : Gm} {d : Nat} {σ : AH} {Q : Oc → AH → Prop} {v0 : Nat} {v1 : Int32} {v2 : Int32} {v3 : Int32} (h : ((v3 ≠ 0 → hs σ v0 = some (7, 27) ∧ ∃ t3 : Nat, gr σ v0 19 = some t3 ∧ ∃ n6 : Nat, hs σ t3 = some (22, n6) ∧ EV Γ MX9_nodeOf d 36 [some (.ref v0), some (.int v1), some (.int v2), some (.int v3), some (.int ((((((v1 * 1000003) + (v2 * 8191)) + (v3 * 31)) * 40503).toUInt32 >>> (Int32.toUInt32 3 &&& Int32.toUInt32 31)).toInt32 &&& ((nI n6) - 1)))] [] σ Q) ∧ (v3 = 0 → Q (.inl (some (.int v2))) σ))) : RUN Γ d MX9_nodeOf [.ref v0, .int v1, .int v2, .int v3] σ Q :=
  EV.enter [some (.ref v0), some (.int v1), some (.int v2), some (.int v3), none] rfl (by decide +kernel) (Nat.le_of_ble_eq_true rfl) rfl (gX9_nodeOf_0 h)
theorem gX9_nodeOf_36 {Γ : Gm} {d : Nat} {σ : AH} {Q : Oc → AH → Prop} {v0 : Nat} {v1 : Int32} {v2 : Int32} {v3 : Int32} {v4 : Int32} (h : hs σ v0 = some (7, 27) ∧ ∃ t2 : Nat, gr σ v0 19 = some t2 ∧ ∃ n5 : Nat, hs σ t2 = some (22, n5) ∧ ∃ j6 : Nat, IX v4 n5 j6 ∧ (((gi σ t2 j6) < 0 → EV Γ MX9_nodeOf d 111 [some (.ref v0), some (.int v1), some (.int v2), some (.int v3), some (.int v4)] [] σ Q) ∧ (¬ (gi σ t2 j6) < 0 → ∃ t9 : Nat, gr σ v0 16 = some t9 ∧ ∃ n12 : Nat, hs σ t9 = some (22, n12) ∧ ∃ j13 : Nat, IX (gi σ t2 j6) n12 j13 ∧ (((gi σ t9 j13) ≠ v1 → EV Γ MX9_nodeOf d 94 [some (.ref v0), some (.int v1), some (.int v2), some (.int v3), some (.int v4)] [] σ Q) ∧ ((gi σ t9 j13) = v1 → ∃ t16 : Nat, gr σ v0 17 = some t16 ∧ ∃ n19 : Nat, hs σ t16 = some (22, n19) ∧ ∃ j20 : Nat, IX (gi σ t2 j6) n19 j20 ∧ (((gi σ t16 j20) ≠ v2 → EV Γ MX9_nodeOf d 94 [some (.ref v0), some (.int v1), some (.int v2), some (.int v3), some (.int v4)] [] σ Q) ∧ ((gi σ t16 j20) = v2 → ∃ t23 : Nat, gr σ v0 18 = some t23 ∧ ∃ n26 : Nat, hs σ t23 = some (22, n26) ∧ ∃ j27 : Nat, IX (gi σ t2 j6) n26 j27 ∧ (((gi σ t23 j27) = v3 → EV Γ MX9_nodeOf d 111 [some (.ref v0), some (.int v1), some (.int v2), some (.int v3), some (.int v4)] [] σ Q) ∧ (¬ (gi σ t23 j27) = v3 → EV Γ MX9_nodeOf d 94 [some (.ref v0), some (.int v1), some (.int v2), some (.int v3), some (.int v4)] [] σ Q))))))))) : EV Γ MX9_nodeOf d 36 [some (.ref v0), some (.int v1), some (.int v2), some (.int v3), some (.int v4)] [] σ Q := by
  refine EV.aload_n 37 rfl 0 rfl rfl dX9_nodeOf_36 ?_
  obtain ⟨w1, h⟩ := h
  obtain ⟨t2, g3, h⟩ := h
  refine EV.getR 40 rfl fl_X9_53 rfl dX9_nodeOf_37 w1 g3 ?_
  refine EV.iload 42 rfl rfl dX9_nodeOf_40 ?_
  obtain ⟨n5, w4, h⟩ := h
  obtain ⟨j6, x7, h⟩ := h
  refine EV.iald 43 rfl dX9_nodeOf_42 w4 x7 ?_
  refine EV.if_lt 46 111 rfl (by decide) dX9_nodeOf_43 (fun c8 => ?_) (fun c8 => ?_)
  · have h := h.1 c8
    exact h
  · have h := h.2 c8
    refine EV.aload_n 47 rfl 0 rfl rfl dX9_nodeOf_46 ?_
    obtain ⟨t9, g10, h⟩ := h
    refine EV.getR 50 rfl fl_X9_44 rfl dX9_nodeOf_47 w1 g10 ?_
    refine EV.aload_n 51 rfl 0 rfl rfl dX9_nodeOf_50 ?_
    refine EV.getR 54 rfl fl_X9_53 rfl dX9_nodeOf_51 w1 g3 ?_
    refine EV.iload 56 rfl rfl dX9_nodeOf_54 ?_
    refine EV.iald 57 rfl dX9_nodeOf_56 w4 x7 ?_
    obtain ⟨n12, w11, h⟩ := h
    obtain ⟨j13, x14, h⟩ := h
    refine EV.iald 58 rfl dX9_nodeOf_57 w11 x14 ?_
    refine EV.iload_n 59 rfl 1 rfl rfl dX9_nodeOf_58 ?_
    refine EV.icmp_ne 62 94 rfl (by decide) dX9_nodeOf_59 (fun c15 => ?_) (fun c15 => ?_)
    · have h := h.1 c15
      exact h
    · have h := h.2 c15
      refine EV.aload_n 63 rfl 0 rfl rfl dX9_nodeOf_62 ?_
      obtain ⟨t16, g17, h⟩ := h
      refine EV.getR 66 rfl fl_X9_47 rfl dX9_nodeOf_63 w1 g17 ?_
      refine EV.aload_n 67 rfl 0 rfl rfl dX9_nodeOf_66 ?_
      refine EV.getR 70 rfl fl_X9_53 rfl dX9_nodeOf_67 w1 g3 ?_
      refine EV.iload 72 rfl rfl dX9_nodeOf_70 ?_
      refine EV.iald 73 rfl dX9_nodeOf_72 w4 x7 ?_
      obtain ⟨n19, w18, h⟩ := h
      obtain ⟨j20, x21, h⟩ := h
      refine EV.iald 74 rfl dX9_nodeOf_73 w18 x21 ?_
      refine EV.iload_n 75 rfl 2 rfl rfl dX9_nodeOf_74 ?_
      refine EV.icmp_ne 78 94 rfl (by decide) dX9_nodeOf_75 (fun c22 => ?_) (fun c22 => ?_)
      · have h := h.1 c22
        exact h
      · have h := h.2 c22
        refine EV.aload_n 79 rfl 0 rfl rfl dX9_nodeOf_78 ?_
        obtain ⟨t23, g24, h⟩ := h
        refine EV.getR 82 rfl fl_X9_50 rfl dX9_nodeOf_79 w1 g24 ?_
        refine EV.aload_n 83 rfl 0 rfl rfl dX9_nodeOf_82 ?_
        refine EV.getR 86 rfl fl_X9_53 rfl dX9_nodeOf_83 w1 g3 ?_
        refine EV.iload 88 rfl rfl dX9_nodeOf_86 ?_
        refine EV.iald 89 rfl dX9_nodeOf_88 w4 x7 ?_
        obtain ⟨n26, w25, h⟩ := h
        obtain ⟨j27, x28, h⟩ := h
        refine EV.iald 90 rfl dX9_nodeOf_89 w25 x28 ?_
        refine EV.iload_n 91 rfl 3 rfl rfl dX9_nodeOf_90 ?_
        refine EV.icmp_eq 94 111 rfl (by decide) dX9_nodeOf_91 (fun c29 => ?_) (fun c29 => ?_)
        · have h := h.1 c29
          exact h
        · have h := h.2 c29
          exact h
theorem gX9_nodeOf_94 {Γ : Gm} {d : Nat} {σ : AH} {Q : Oc → AH → Prop} {v0 : Nat} {v1 : Int32} {v2 : Int32} {v3 : Int32} {v4 : Int32} (h : hs σ v0 = some (7, 27) ∧ ∃ t2 : Nat, gr σ v0 19 = some t2 ∧ ∃ n5 : Nat, hs σ t2 = some (22, n5) ∧ EV Γ MX9_nodeOf d 36 [some (.ref v0), some (.int v1), some (.int v2), some (.int v3), some (.int ((v4 + 1) &&& ((nI n5) - 1)))] [] σ Q) : EV Γ MX9_nodeOf d 94 [some (.ref v0), some (.int v1), some (.int v2), some (.int v3), some (.int v4)] [] σ Q := by
  refine EV.iload 96 rfl rfl dX9_nodeOf_94 ?_
  refine EV.iconst 97 rfl dX9_nodeOf_96 (v := 1) (by decide) ?_
  refine EV.iadd 98 rfl dX9_nodeOf_97 ?_
  refine EV.aload_n 99 rfl 0 rfl rfl dX9_nodeOf_98 ?_
  obtain ⟨w1, h⟩ := h
  obtain ⟨t2, g3, h⟩ := h
  refine EV.getR 102 rfl fl_X9_53 rfl dX9_nodeOf_99 w1 g3 ?_
  obtain ⟨n5, w4, h⟩ := h
  refine EV.alenI 103 rfl dX9_nodeOf_102 w4 ?_
  refine EV.iconst 104 rfl dX9_nodeOf_103 (v := 1) (by decide) ?_
  refine EV.isub 105 rfl dX9_nodeOf_104 ?_
  refine EV.iand 106 rfl dX9_nodeOf_105 ?_
  refine EV.istore 108 rfl [some (.ref v0), some (.int v1), some (.int v2), some (.int v3), some (.int ((v4 + 1) &&& ((nI n5) - 1)))] (by decide) rfl dX9_nodeOf_106 ?_
  refine EV.goto 36 (by decide) dX9_nodeOf_108 ?_
  exact h
theorem gX9_nodeOf_111 {Γ : Gm} {d : Nat} {σ : AH} {Q : Oc → AH → Prop} {v0 : Nat} {v1 : Int32} {v2 : Int32} {v3 : Int32} {v4 : Int32} (h : hs σ v0 = some (7, 27) ∧ ∃ t2 : Nat, gr σ v0 19 = some t2 ∧ ∃ n5 : Nat, hs σ t2 = some (22, n5) ∧ ∃ j6 : Nat, IX v4 n5 j6 ∧ (((gi σ t2 j6) < 0 → ∃ t9 : Nat, gr σ v0 16 = some t9 ∧ ∃ n12 : Nat, hs σ t9 = some (22, n12) ∧ (((gi σ v0 20) ≠ (nI n12) → ∀ σ14 : AH, σ14 = setI σ t2 j6 (gi σ v0 20) → ∃ j21 : Nat, IX (gi σ14 v0 20) n12 j21 ∧ ∀ σ23 : AH, σ23 = setI σ14 t9 j21 v1 → ∃ t30 : Nat, gr σ23 v0 17 = some t30 ∧ ∃ n33 : Nat, hs σ23 t30 = some (22, n33) ∧ ∃ j34 : Nat, IX (gi σ23 v0 20) n33 j34 ∧ ∀ σ36 : AH, σ36 = setI σ23 t30 j34 v2 → ∃ t45 : Nat, gr σ36 v0 18 = some t45 ∧ ∃ n48 : Nat, hs σ36 t45 = some (22, n48) ∧ ∃ j49 : Nat, IX (gi σ36 v0 20) n48 j49 ∧ ∀ σ51 : AH, σ51 = setI σ36 t45 j49 v3 → ∀ σ62 : AH, σ62 = setI σ51 v0 20 ((gi σ51 v0 20) + 1) → Q (.inl (some (.int ((gi σ62 v0 20) + 1)))) σ62) ∧ ((gi σ v0 20) = (nI n12) → CV Γ d MX9_grow [.ref v0] σ (fun σ73 => hs σ73 v0 = some (7, 27) ∧ CI Γ d MX9_nodeOf [.ref v0, .int v1, .int v2, .int v3] σ73 (fun r76 σ75 => Q (.inl (some (.int r76))) σ75) (fun E σ75 => Q (.inr E) σ75)) (fun E σ73 => Q (.inr E) σ73)))) ∧ (¬ (gi σ t2 j6) < 0 → Q (.inl (some (.int ((gi σ t2 j6) + 2)))) σ))) : EV Γ MX9_nodeOf d 111 [some (.ref v0), some (.int v1), some (.int v2), some (.int v3), some (.int v4)] [] σ Q := by
  refine EV.aload_n 112 rfl 0 rfl rfl dX9_nodeOf_111 ?_
  obtain ⟨w1, h⟩ := h
  obtain ⟨t2, g3, h⟩ := h
  refine EV.getR 115 rfl fl_X9_53 rfl dX9_nodeOf_112 w1 g3 ?_
  refine EV.iload 117 rfl rfl dX9_nodeOf_115 ?_
  obtain ⟨n5, w4, h⟩ := h
  obtain ⟨j6, x7, h⟩ := h
  refine EV.iald 118 rfl dX9_nodeOf_117 w4 x7 ?_
  refine EV.if_lt 121 131 rfl (by decide) dX9_nodeOf_118 (fun c8 => ?_) (fun c8 => ?_)
  · have h := h.1 c8
    refine EV.aload_n 132 rfl 0 rfl rfl dX9_nodeOf_131 ?_
    refine EV.getI 135 rfl fl_X9_111 rfl dX9_nodeOf_132 w1 ?_
    refine EV.aload_n 136 rfl 0 rfl rfl dX9_nodeOf_135 ?_
    obtain ⟨t9, g10, h⟩ := h
    refine EV.getR 139 rfl fl_X9_44 rfl dX9_nodeOf_136 w1 g10 ?_
    obtain ⟨n12, w11, h⟩ := h
    refine EV.alenI 140 rfl dX9_nodeOf_139 w11 ?_
    refine EV.icmp_ne 143 155 rfl (by decide) dX9_nodeOf_140 (fun c13 => ?_) (fun c13 => ?_)
    · have h := h.1 c13
      refine EV.aload_n 156 rfl 0 rfl rfl dX9_nodeOf_155 ?_
      refine EV.getR 159 rfl fl_X9_53 rfl dX9_nodeOf_156 w1 g3 ?_
      refine EV.iload 161 rfl rfl dX9_nodeOf_159 ?_
      refine EV.aload_n 162 rfl 0 rfl rfl dX9_nodeOf_161 ?_
      refine EV.getI 165 rfl fl_X9_111 rfl dX9_nodeOf_162 w1 ?_
      refine EV.iast 166 rfl dX9_nodeOf_165 w4 x7 (EV.nm (fun σ14 e15 => ?_))
      have h := h σ14 e15
      have w16 := tr_hs (hs_setI_of e15) w1
      have w17 := tr_hs (hs_setI_of e15) w4
      have w18 := tr_hs (hs_setI_of e15) w11
      have g19 := tr_gr (gr_setI_of e15) g3
      have g20 := tr_gr (gr_setI_of e15) g10
      refine EV.aload_n 167 rfl 0 rfl rfl dX9_nodeOf_166 ?_
      refine EV.getR 170 rfl fl_X9_44 rfl dX9_nodeOf_167 w16 g20 ?_
      refine EV.aload_n 171 rfl 0 rfl rfl dX9_nodeOf_170 ?_
      refine EV.getI 174 rfl fl_X9_111 rfl dX9_nodeOf_171 w16 ?_
      refine EV.iload_n 175 rfl 1 rfl rfl dX9_nodeOf_174 ?_
      obtain ⟨j21, x22, h⟩ := h
      refine EV.iast 176 rfl dX9_nodeOf_175 w18 x22 (EV.nm (fun σ23 e24 => ?_))
      have h := h σ23 e24
      have w25 := tr_hs (hs_setI_of e24) w16
      have w26 := tr_hs (hs_setI_of e24) w17
      have w27 := tr_hs (hs_setI_of e24) w18
      have g28 := tr_gr (gr_setI_of e24) g19
      have g29 := tr_gr (gr_setI_of e24) g20
      refine EV.aload_n 177 rfl 0 rfl rfl dX9_nodeOf_176 ?_
      obtain ⟨t30, g31, h⟩ := h
      refine EV.getR 180 rfl fl_X9_47 rfl dX9_nodeOf_177 w25 g31 ?_
      refine EV.aload_n 181 rfl 0 rfl rfl dX9_nodeOf_180 ?_
      refine EV.getI 184 rfl fl_X9_111 rfl dX9_nodeOf_181 w25 ?_
      refine EV.iload_n 185 rfl 2 rfl rfl dX9_nodeOf_184 ?_
      obtain ⟨n33, w32, h⟩ := h
      obtain ⟨j34, x35, h⟩ := h
      refine EV.iast 186 rfl dX9_nodeOf_185 w32 x35 (EV.nm (fun σ36 e37 => ?_))
      have h := h σ36 e37
      have w38 := tr_hs (hs_setI_of e37) w25
      have w39 := tr_hs (hs_setI_of e37) w26
      have w40 := tr_hs (hs_setI_of e37) w27
      have w41 := tr_hs (hs_setI_of e37) w32
      have g42 := tr_gr (gr_setI_of e37) g28
      have g43 := tr_gr (gr_setI_of e37) g29
      have g44 := tr_gr (gr_setI_of e37) g31
      refine EV.aload_n 187 rfl 0 rfl rfl dX9_nodeOf_186 ?_
      obtain ⟨t45, g46, h⟩ := h
      refine EV.getR 190 rfl fl_X9_50 rfl dX9_nodeOf_187 w38 g46 ?_
      refine EV.aload_n 191 rfl 0 rfl rfl dX9_nodeOf_190 ?_
      refine EV.getI 194 rfl fl_X9_111 rfl dX9_nodeOf_191 w38 ?_
      refine EV.iload_n 195 rfl 3 rfl rfl dX9_nodeOf_194 ?_
      obtain ⟨n48, w47, h⟩ := h
      obtain ⟨j49, x50, h⟩ := h
      refine EV.iast 196 rfl dX9_nodeOf_195 w47 x50 (EV.nm (fun σ51 e52 => ?_))
      have h := h σ51 e52
      have w53 := tr_hs (hs_setI_of e52) w38
      have w54 := tr_hs (hs_setI_of e52) w39
      have w55 := tr_hs (hs_setI_of e52) w40
      have w56 := tr_hs (hs_setI_of e52) w41
      have w57 := tr_hs (hs_setI_of e52) w47
      have g58 := tr_gr (gr_setI_of e52) g42
      have g59 := tr_gr (gr_setI_of e52) g43
      have g60 := tr_gr (gr_setI_of e52) g44
      have g61 := tr_gr (gr_setI_of e52) g46
      refine EV.aload_n 197 rfl 0 rfl rfl dX9_nodeOf_196 ?_
      refine EV.dup 198 rfl dX9_nodeOf_197 rfl ?_
      refine EV.getI 201 rfl fl_X9_111 rfl dX9_nodeOf_198 w53 ?_
      refine EV.iconst 202 rfl dX9_nodeOf_201 (v := 1) (by decide) ?_
      refine EV.iadd 203 rfl dX9_nodeOf_202 ?_
      refine EV.putI 206 rfl fw_X9_111 rfl (by decide) dX9_nodeOf_203 w53 (EV.nm (fun σ62 e63 => ?_))
      have h := h σ62 e63
      have w64 := tr_hs (hs_setI_of e63) w53
      have w65 := tr_hs (hs_setI_of e63) w54
      have w66 := tr_hs (hs_setI_of e63) w55
      have w67 := tr_hs (hs_setI_of e63) w56
      have w68 := tr_hs (hs_setI_of e63) w57
      have g69 := tr_gr (gr_setI_of e63) g58
      have g70 := tr_gr (gr_setI_of e63) g59
      have g71 := tr_gr (gr_setI_of e63) g60
      have g72 := tr_gr (gr_setI_of e63) g61
      refine EV.aload_n 207 rfl 0 rfl rfl dX9_nodeOf_206 ?_
      refine EV.getI 210 rfl fl_X9_111 rfl dX9_nodeOf_207 w64 ?_
      refine EV.iconst 211 rfl dX9_nodeOf_210 (v := 1) (by decide) ?_
      refine EV.iadd 212 rfl dX9_nodeOf_211 ?_
      exact EV.iret rfl dX9_nodeOf_212 h
    · have h := h.2 c13
      refine EV.aload_n 144 rfl 0 rfl rfl dX9_nodeOf_143 ?_
      refine EV.cV rfl rfl lk_X9_116 rfl (vs := []) (st := []) rfl rfl (Nat.le_of_ble_eq_true rfl) dX9_nodeOf_144 w1 h (fun v σ73 h => ?_)
      obtain ⟨rfl, h⟩ := h
      show EV Γ MX9_nodeOf d 147 [some (.ref v0), some (.int v1), some (.int v2), some (.int v3), some (.int v4)] [] σ73 Q
      refine EV.aload_n 148 rfl 0 rfl rfl dX9_nodeOf_147 ?_
      refine EV.iload_n 149 rfl 1 rfl rfl dX9_nodeOf_148 ?_
      refine EV.iload_n 150 rfl 2 rfl rfl dX9_nodeOf_149 ?_
      refine EV.iload_n 151 rfl 3 rfl rfl dX9_nodeOf_150 ?_
      obtain ⟨w77, h⟩ := h
      refine EV.cV rfl rfl lk_X9_119 rfl (vs := [.int v1, .int v2, .int v3]) (st := []) rfl rfl (Nat.le_of_ble_eq_true rfl) dX9_nodeOf_151 w77 h (fun v σ75 h => ?_)
      obtain ⟨r76, rfl, h⟩ := h
      show EV Γ MX9_nodeOf d 154 [some (.ref v0), some (.int v1), some (.int v2), some (.int v3), some (.int v4)] [.int r76] σ75 Q
      exact EV.iret rfl dX9_nodeOf_154 h
  · have h := h.2 c8
    refine EV.aload_n 122 rfl 0 rfl rfl dX9_nodeOf_121 ?_
    refine EV.getR 125 rfl fl_X9_53 rfl dX9_nodeOf_122 w1 g3 ?_
    refine EV.iload 127 rfl rfl dX9_nodeOf_125 ?_
    refine EV.iald 128 rfl dX9_nodeOf_127 w4 x7 ?_
    refine EV.iconst 129 rfl dX9_nodeOf_128 (v := 2) (by decide) ?_
    refine EV.iadd 130 rfl dX9_nodeOf_129 ?_
    exact EV.iret rfl dX9_nodeOf_130 h
theorem gX9_longer_0 {Γ : Gm} {d : Nat} {σ : AH} {Q : Oc → AH → Prop} {v0 : Nat} (h : ∃ n2 : Nat, hs σ v0 = some (22, n2) ∧ ∃ n3 : Nat, ((2 : Int32) * (nI n2)).toInt = (n3 : Int) ∧ n3 ≤ 60000000 ∧ ∀ (q6 : Nat) (σ7 : AH), q6 = lo Γ + hc σ → σ7 = mk σ q6 22 n3 → EV Γ MX9_longer d 9 [some (.ref v0), some (.ref q6), some (.int 0)] [] σ7 Q) : EV Γ MX9_longer d 0 [some (.ref v0), none, none] [] σ Q := by
  refine EV.iconst 1 rfl dX9_longer_0 (v := 2) (by decide) ?_
  refine EV.aload_n 2 rfl 0 rfl rfl dX9_longer_1 ?_
  obtain ⟨n2, w1, h⟩ := h
  refine EV.alenI 3 rfl dX9_longer_2 w1 ?_
  refine EV.imul 4 rfl dX9_longer_3 ?_
  obtain ⟨n3, z4, z5, h⟩ := h
  refine EV.newI 6 rfl (n := n3) ac_int dX9_longer_4 z4 z5 (EV.nq (fun q6 σ7 eq6 eσ7 => ?_))
  have h := h q6 σ7 eq6 eσ7
  have w8 : hs σ7 q6 = some (22, n3) := by rw [eσ7]; exact up_same _ _ _
  refine EV.astore_n 7 rfl 1 [some (.ref v0), some (.ref q6), none] rfl (by decide) rfl dX9_longer_6 ?_
  refine EV.iconst 8 rfl dX9_longer_7 (v := 0) (by decide) ?_
  refine EV.istore_n 9 rfl 2 [some (.ref v0), some (.ref q6), some (.int 0)] rfl (by decide) rfl dX9_longer_8 ?_
  exact h
theorem eX9_longer {Γ : Gm} {d : Nat} {σ : AH} {Q : Oc → AH → Prop} {v0 : Nat} (h : ∃ n2 : Nat, hs σ v0 = some (22, n2) ∧ ∃ n3 : Nat, ((2 : Int32) * (nI n2)).toInt = (n3 : Int) ∧ n3 ≤ 60000000 ∧ ∀ (q6 : Nat) (σ7 : AH), q6 = lo Γ + hc σ → σ7 = mk σ q6 22 n3 → EV Γ MX9_longer d 9 [some (.ref v0), some (.ref q6), some (.int 0)] [] σ7 Q) : RUN Γ d MX9_longer [.ref v0] σ Q :=
  EV.enter [some (.ref v0), none, none] rfl (by decide +kernel) (Nat.le_of_ble_eq_true rfl) rfl (gX9_longer_0 h)
theorem gX9_longer_9 {Γ : Gm} {d : Nat} {σ : AH} {Q : Oc → AH → Prop} {v0 : Nat} {v1 : Nat} {v2 : Int32} (h : ∃ n2 : Nat, hs σ v0 = some (22, n2) ∧ (((nI n2) ≤ v2 → Q (.inl (some (.ref v1))) σ) ∧ (¬ (nI n2) ≤ v2 → ∃ j4 : Nat, IX v2 n2 j4 ∧ ∃ n7 : Nat, hs σ v1 = some (22, n7) ∧ ∃ j8 : Nat, IX v2 n7 j8 ∧ ∀ σ10 : AH, σ10 = setI σ v1 j8 (gi σ v0 j4) → EV Γ MX9_longer d 9 [some (.ref v0), some (.ref v1), some (.int (v2 + 1))] [] σ10 Q))) : EV Γ MX9_longer d 9 [some (.ref v0), some (.ref v1), some (.int v2)] [] σ Q := by
  refine EV.iload_n 10 rfl 2 rfl rfl dX9_longer_9 ?_
  refine EV.aload_n 11 rfl 0 rfl rfl dX9_longer_10 ?_
  obtain ⟨n2, w1, h⟩ := h
  refine EV.alenI 12 rfl dX9_longer_11 w1 ?_
  refine EV.icmp_ge 15 27 rfl (by decide) dX9_longer_12 (fun c3 => ?_) (fun c3 => ?_)
  · have h := h.1 c3
    refine EV.aload_n 28 rfl 1 rfl rfl dX9_longer_27 ?_
    exact EV.aret rfl (Or.inr ⟨_, rfl⟩) dX9_longer_28 h
  · have h := h.2 c3
    refine EV.aload_n 16 rfl 1 rfl rfl dX9_longer_15 ?_
    refine EV.iload_n 17 rfl 2 rfl rfl dX9_longer_16 ?_
    refine EV.aload_n 18 rfl 0 rfl rfl dX9_longer_17 ?_
    refine EV.iload_n 19 rfl 2 rfl rfl dX9_longer_18 ?_
    obtain ⟨j4, x5, h⟩ := h
    refine EV.iald 20 rfl dX9_longer_19 w1 x5 ?_
    obtain ⟨n7, w6, h⟩ := h
    obtain ⟨j8, x9, h⟩ := h
    refine EV.iast 21 rfl dX9_longer_20 w6 x9 (EV.nm (fun σ10 e11 => ?_))
    have h := h σ10 e11
    have w12 := tr_hs (hs_setI_of e11) w1
    have w13 := tr_hs (hs_setI_of e11) w6
    refine EV.iinc 24 rfl [some (.ref v0), some (.ref v1), some (.int (v2 + 1))] (v := 1) (by decide) (by decide) rfl rfl dX9_longer_21 ?_
    refine EV.goto 9 (by decide) dX9_longer_24 ?_
    exact h
theorem gX9_grow_0 {Γ : Gm} {d : Nat} {σ : AH} {Q : Oc → AH → Prop} {v0 : Nat} (h : hs σ v0 = some (7, 27) ∧ ∃ t2 : Nat, gr σ v0 16 = some t2 ∧ CR Γ d MX9_longer [.ref t2] σ (fun r5 σ4 => hs σ4 v0 = some (7, 27) ∧ ∀ σ7 : AH, σ7 = setR σ4 v0 16 (some r5) → ∃ t10 : Nat, gr σ7 v0 17 = some t10 ∧ CR Γ d MX9_longer [.ref t10] σ7 (fun r13 σ12 => hs σ12 v0 = some (7, 27) ∧ ∀ σ15 : AH, σ15 = setR σ12 v0 17 (some r13) → ∃ t18 : Nat, gr σ15 v0 18 = some t18 ∧ CR Γ d MX9_longer [.ref t18] σ15 (fun r21 σ20 => hs σ20 v0 = some (7, 27) ∧ ∀ σ23 : AH, σ23 = setR σ20 v0 18 (some r21) → ∃ t26 : Nat, gr σ23 v0 19 = some t26 ∧ ∃ n29 : Nat, hs σ23 t26 = some (22, n29) ∧ ∃ n30 : Nat, ((2 : Int32) * (nI n29)).toInt = (n30 : Int) ∧ n30 ≤ 60000000 ∧ ∀ (q33 : Nat) (σ34 : AH), q33 = lo Γ + hc σ23 → σ34 = mk σ23 q33 22 n30 → hs σ34 v0 = some (7, 27) ∧ ∀ σ37 : AH, σ37 = setR σ34 v0 19 (some q33) → CV Γ d MX9_clearNodes [.ref v0] σ37 (fun σ41 => EV Γ MX9_grow d 57 [some (.ref v0), some (.int (gi σ37 v0 20)), some (.int 0)] [] σ41 Q) (fun E σ41 => Q (.inr E) σ41)) (fun _ _ => False)) (fun _ _ => False)) (fun _ _ => False)) : EV Γ MX9_grow d 0 [some (.ref v0), none, none] [] σ Q := by
  refine EV.aload_n 1 rfl 0 rfl rfl dX9_grow_0 ?_
  refine EV.aload_n 2 rfl 0 rfl rfl dX9_grow_1 ?_
  obtain ⟨w1, h⟩ := h
  obtain ⟨t2, g3, h⟩ := h
  refine EV.getR 5 rfl fl_X9_44 rfl dX9_grow_2 w1 g3 ?_
  refine EV.cS rfl lk_X9_123 rfl (vs := [.ref t2]) (st := [.ref v0]) rfl rfl (Nat.le_of_ble_eq_true rfl) dX9_grow_5 h (fun v σ4 h => ?_)
  obtain ⟨r5, rfl, h⟩ := h
  show EV Γ MX9_grow d 8 [some (.ref v0), none, none] [.ref r5, .ref v0] σ4 Q
  obtain ⟨w6, h⟩ := h
  refine EV.putR 11 rfl fw_X9_44 rfl (by decide) dX9_grow_8 w6 (EV.nm (fun σ7 e8 => ?_))
  have h := h σ7 e8
  have w9 := tr_hs (hs_setR_of e8) w6
  refine EV.aload_n 12 rfl 0 rfl rfl dX9_grow_11 ?_
  refine EV.aload_n 13 rfl 0 rfl rfl dX9_grow_12 ?_
  obtain ⟨t10, g11, h⟩ := h
  refine EV.getR 16 rfl fl_X9_47 rfl dX9_grow_13 w9 g11 ?_
  refine EV.cS rfl lk_X9_123 rfl (vs := [.ref t10]) (st := [.ref v0]) rfl rfl (Nat.le_of_ble_eq_true rfl) dX9_grow_16 h (fun v σ12 h => ?_)
  obtain ⟨r13, rfl, h⟩ := h
  show EV Γ MX9_grow d 19 [some (.ref v0), none, none] [.ref r13, .ref v0] σ12 Q
  obtain ⟨w14, h⟩ := h
  refine EV.putR 22 rfl fw_X9_47 rfl (by decide) dX9_grow_19 w14 (EV.nm (fun σ15 e16 => ?_))
  have h := h σ15 e16
  have w17 := tr_hs (hs_setR_of e16) w14
  refine EV.aload_n 23 rfl 0 rfl rfl dX9_grow_22 ?_
  refine EV.aload_n 24 rfl 0 rfl rfl dX9_grow_23 ?_
  obtain ⟨t18, g19, h⟩ := h
  refine EV.getR 27 rfl fl_X9_50 rfl dX9_grow_24 w17 g19 ?_
  refine EV.cS rfl lk_X9_123 rfl (vs := [.ref t18]) (st := [.ref v0]) rfl rfl (Nat.le_of_ble_eq_true rfl) dX9_grow_27 h (fun v σ20 h => ?_)
  obtain ⟨r21, rfl, h⟩ := h
  show EV Γ MX9_grow d 30 [some (.ref v0), none, none] [.ref r21, .ref v0] σ20 Q
  obtain ⟨w22, h⟩ := h
  refine EV.putR 33 rfl fw_X9_50 rfl (by decide) dX9_grow_30 w22 (EV.nm (fun σ23 e24 => ?_))
  have h := h σ23 e24
  have w25 := tr_hs (hs_setR_of e24) w22
  refine EV.aload_n 34 rfl 0 rfl rfl dX9_grow_33 ?_
  refine EV.iconst 35 rfl dX9_grow_34 (v := 2) (by decide) ?_
  refine EV.aload_n 36 rfl 0 rfl rfl dX9_grow_35 ?_
  obtain ⟨t26, g27, h⟩ := h
  refine EV.getR 39 rfl fl_X9_53 rfl dX9_grow_36 w25 g27 ?_
  obtain ⟨n29, w28, h⟩ := h
  refine EV.alenI 40 rfl dX9_grow_39 w28 ?_
  refine EV.imul 41 rfl dX9_grow_40 ?_
  obtain ⟨n30, z31, z32, h⟩ := h
  refine EV.newI 43 rfl (n := n30) ac_int dX9_grow_41 z31 z32 (EV.nq (fun q33 σ34 eq33 eσ34 => ?_))
  have h := h q33 σ34 eq33 eσ34
  have w35 : hs σ34 q33 = some (22, n30) := by rw [eσ34]; exact up_same _ _ _
  obtain ⟨w36, h⟩ := h
  refine EV.putR 46 rfl fw_X9_53 rfl (by decide) dX9_grow_43 w36 (EV.nm (fun σ37 e38 => ?_))
  have h := h σ37 e38
  have w39 := tr_hs (hs_setR_of e38) w35
  have w40 := tr_hs (hs_setR_of e38) w36
  refine EV.aload_n 47 rfl 0 rfl rfl dX9_grow_46 ?_
  refine EV.getI 50 rfl fl_X9_111 rfl dX9_grow_47 w40 ?_
  refine EV.istore_n 51 rfl 1 [some (.ref v0), some (.int (gi σ37 v0 20)), none] rfl (by decide) rfl dX9_grow_50 ?_
  refine EV.aload_n 52 rfl 0 rfl rfl dX9_grow_51 ?_
  refine EV.cV rfl rfl lk_X9_127 rfl (vs := []) (st := []) rfl rfl (Nat.le_of_ble_eq_true rfl) dX9_grow_52 w40 h (fun v σ41 h => ?_)
  obtain ⟨rfl, h⟩ := h
  show EV Γ MX9_grow d 55 [some (.ref v0), some (.int (gi σ37 v0 20)), none] [] σ41 Q
  refine EV.iconst 56 rfl dX9_grow_55 (v := 0) (by decide) ?_
  refine EV.istore_n 57 rfl 2 [some (.ref v0), some (.int (gi σ37 v0 20)), some (.int 0)] rfl (by decide) rfl dX9_grow_56 ?_
  exact h
theorem eX9_grow {Γ : Gm} {d : Nat} {σ : AH} {Q : Oc → AH → Prop} {v0 : Nat} (h : hs σ v0 = some (7, 27) ∧ ∃ t2 : Nat, gr σ v0 16 = some t2 ∧ CR Γ d MX9_longer [.ref t2] σ (fun r5 σ4 => hs σ4 v0 = some (7, 27) ∧ ∀ σ7 : AH, σ7 = setR σ4 v0 16 (some r5) → ∃ t10 : Nat, gr σ7 v0 17 = some t10 ∧ CR Γ d MX9_longer [.ref t10] σ7 (fun r13 σ12 => hs σ12 v0 = some (7, 27) ∧ ∀ σ15 : AH, σ15 = setR σ12 v0 17 (some r13) → ∃ t18 : Nat, gr σ15 v0 18 = some t18 ∧ CR Γ d MX9_longer [.ref t18] σ15 (fun r21 σ20 => hs σ20 v0 = some (7, 27) ∧ ∀ σ23 : AH, σ23 = setR σ20 v0 18 (some r21) → ∃ t26 : Nat, gr σ23 v0 19 = some t26 ∧ ∃ n29 : Nat, hs σ23 t26 = some (22, n29) ∧ ∃ n30 : Nat, ((2 : Int32) * (nI n29)).toInt = (n30 : Int) ∧ n30 ≤ 60000000 ∧ ∀ (q33 : Nat) (σ34 : AH), q33 = lo Γ + hc σ23 → σ34 = mk σ23 q33 22 n30 → hs σ34 v0 = some (7, 27) ∧ ∀ σ37 : AH, σ37 = setR σ34 v0 19 (some q33) → CV Γ d MX9_clearNodes [.ref v0] σ37 (fun σ41 => EV Γ MX9_grow d 57 [some (.ref v0), some (.int (gi σ37 v0 20)), some (.int 0)] [] σ41 Q) (fun E σ41 => Q (.inr E) σ41)) (fun _ _ => False)) (fun _ _ => False)) (fun _ _ => False)) : RUN Γ d MX9_grow [.ref v0] σ Q :=
  EV.enter [some (.ref v0), none, none] rfl (by decide +kernel) (Nat.le_of_ble_eq_true rfl) rfl (gX9_grow_0 h)
theorem gX9_grow_57 {Γ : Gm} {d : Nat} {σ : AH} {Q : Oc → AH → Prop} {v0 : Nat} {v1 : Int32} {v2 : Int32} (h : ((v1 ≤ v2 → Q (.inl none) σ) ∧ (¬ v1 ≤ v2 → hs σ v0 = some (7, 27) ∧ ∃ t3 : Nat, gr σ v0 16 = some t3 ∧ ∃ n6 : Nat, hs σ t3 = some (22, n6) ∧ ∃ j7 : Nat, IX v2 n6 j7 ∧ ∃ t9 : Nat, gr σ v0 17 = some t9 ∧ ∃ n12 : Nat, hs σ t9 = some (22, n12) ∧ ∃ j13 : Nat, IX v2 n12 j13 ∧ ∃ t15 : Nat, gr σ v0 18 = some t15 ∧ ∃ n18 : Nat, hs σ t15 = some (22, n18) ∧ ∃ j19 : Nat, IX v2 n18 j19 ∧ CI Γ d MX9_nodeOf [.ref v0, .int (gi σ t3 j7), .int (gi σ t9 j13), .int (gi σ t15 j19)] σ (fun r22 σ21 => ((r22 = (v2 + 2) → EV Γ MX9_grow d 57 [some (.ref v0), some (.int v1), some (.int (v2 + 1))] [] σ21 Q) ∧ (¬ r22 = (v2 + 2) → Q (.inl none) σ21))) (fun E σ21 => Q (.inr E) σ21)))) : EV Γ MX9_grow d 57 [some (.ref v0), some (.int v1), some (.int v2)] [] σ Q := by
  refine EV.iload_n 58 rfl 2 rfl rfl dX9_grow_57 ?_
  refine EV.iload_n 59 rfl 1 rfl rfl dX9_grow_58 ?_
  refine EV.icmp_ge 62 97 rfl (by decide) dX9_grow_59 (fun c1 => ?_) (fun c1 => ?_)
  · have h := h.1 c1
    exact EV.vret rfl dX9_grow_97 h
  · have h := h.2 c1
    refine EV.aload_n 63 rfl 0 rfl rfl dX9_grow_62 ?_
    refine EV.aload_n 64 rfl 0 rfl rfl dX9_grow_63 ?_
    obtain ⟨w2, h⟩ := h
    obtain ⟨t3, g4, h⟩ := h
    refine EV.getR 67 rfl fl_X9_44 rfl dX9_grow_64 w2 g4 ?_
    refine EV.iload_n 68 rfl 2 rfl rfl dX9_grow_67 ?_
    obtain ⟨n6, w5, h⟩ := h
    obtain ⟨j7, x8, h⟩ := h
    refine EV.iald 69 rfl dX9_grow_68 w5 x8 ?_
    refine EV.aload_n 70 rfl 0 rfl rfl dX9_grow_69 ?_
    obtain ⟨t9, g10, h⟩ := h
    refine EV.getR 73 rfl fl_X9_47 rfl dX9_grow_70 w2 g10 ?_
    refine EV.iload_n 74 rfl 2 rfl rfl dX9_grow_73 ?_
    obtain ⟨n12, w11, h⟩ := h
    obtain ⟨j13, x14, h⟩ := h
    refine EV.iald 75 rfl dX9_grow_74 w11 x14 ?_
    refine EV.aload_n 76 rfl 0 rfl rfl dX9_grow_75 ?_
    obtain ⟨t15, g16, h⟩ := h
    refine EV.getR 79 rfl fl_X9_50 rfl dX9_grow_76 w2 g16 ?_
    refine EV.iload_n 80 rfl 2 rfl rfl dX9_grow_79 ?_
    obtain ⟨n18, w17, h⟩ := h
    obtain ⟨j19, x20, h⟩ := h
    refine EV.iald 81 rfl dX9_grow_80 w17 x20 ?_
    refine EV.cV rfl rfl lk_X9_119 rfl (vs := [.int (gi σ t3 j7), .int (gi σ t9 j13), .int (gi σ t15 j19)]) (st := []) rfl rfl (Nat.le_of_ble_eq_true rfl) dX9_grow_81 w2 h (fun v σ21 h => ?_)
    obtain ⟨r22, rfl, h⟩ := h
    show EV Γ MX9_grow d 84 [some (.ref v0), some (.int v1), some (.int v2)] [.int r22] σ21 Q
    refine EV.iload_n 85 rfl 2 rfl rfl dX9_grow_84 ?_
    refine EV.iconst 86 rfl dX9_grow_85 (v := 2) (by decide) ?_
    refine EV.iadd 87 rfl dX9_grow_86 ?_
    refine EV.icmp_eq 90 91 rfl (by decide) dX9_grow_87 (fun c23 => ?_) (fun c23 => ?_)
    · have h := h.1 c23
      refine EV.iinc 94 rfl [some (.ref v0), some (.int v1), some (.int (v2 + 1))] (v := 1) (by decide) (by decide) rfl rfl dX9_grow_91 ?_
      refine EV.goto 57 (by decide) dX9_grow_94 ?_
      exact h
    · have h := h.2 c23
      exact EV.vret rfl dX9_grow_90 h
theorem gX9_number_0 {Γ : Gm} {d : Nat} {σ : AH} {Q : Oc → AH → Prop} {v0 : Nat} {v1 : Int32} (h : EV Γ MX9_number d 2 [some (.ref v0), some (.int v1), some (.int 0), none] [] σ Q) : EV Γ MX9_number d 0 [some (.ref v0), some (.int v1), none, none] [] σ Q := by
  refine EV.iconst 1 rfl dX9_number_0 (v := 0) (by decide) ?_
  refine EV.istore_n 2 rfl 2 [some (.ref v0), some (.int v1), some (.int 0), none] rfl (by decide) rfl dX9_number_1 ?_
  exact h
theorem eX9_number {Γ : Gm} {d : Nat} {σ : AH} {Q : Oc → AH → Prop} {v0 : Nat} {v1 : Int32} (h : EV Γ MX9_number d 2 [some (.ref v0), some (.int v1), some (.int 0), none] [] σ Q) : RUN Γ d MX9_number [.ref v0, .int v1] σ Q :=
  EV.enter [some (.ref v0), some (.int v1), none, none] rfl (by decide +kernel) (Nat.le_of_ble_eq_true rfl) rfl (gX9_number_0 h)
theorem gX9_number_2 {Γ : Gm} {d : Nat} {σ : AH} {Q : Oc → AH → Prop} {v0 : Nat} {v1 : Int32} {v2 : Int32} (h : ((4096 ≤ v2 → EV Γ MX9_number d 41 [some (.ref v0), none, some (.int 11), none] [] σ Q) ∧ (¬ 4096 ≤ v2 → hs σ v0 = some (7, 27) ∧ ∃ t3 : Nat, gr σ v0 21 = some t3 ∧ ∃ t5 : Nat, gr σ v0 9 = some t5 ∧ CI Γ d MX9_has [.ref t5, .int v1, .int v2] σ (fun r8 σ7 => ((r8 = 0 → ∃ n11 : Nat, hs σ7 t3 = some (22, n11) ∧ ∃ j12 : Nat, IX v2 n11 j12 ∧ ∀ σ14 : AH, σ14 = setI σ7 t3 j12 0 → EV Γ MX9_number d 2 [some (.ref v0), some (.int v1), some (.int (v2 + 1)), none] [] σ14 Q) ∧ (¬ r8 = 0 → ∃ n18 : Nat, hs σ7 t3 = some (22, n18) ∧ ∃ j19 : Nat, IX v2 n18 j19 ∧ ∀ σ21 : AH, σ21 = setI σ7 t3 j19 1 → EV Γ MX9_number d 2 [some (.ref v0), some (.int v1), some (.int (v2 + 1)), none] [] σ21 Q))) (fun _ _ => False)))) : EV Γ MX9_number d 2 [some (.ref v0), some (.int v1), some (.int v2), none] [] σ Q := by
  refine EV.iload_n 3 rfl 2 rfl rfl dX9_number_2 ?_
  refine EV.sipush 6 rfl dX9_number_3 (v := 4096) (by decide) ?_
  refine EV.icmp_ge 9 38 rfl (by decide) dX9_number_6 (fun c1 => ?_) (fun c1 => ?_)
  · have h := h.1 c1
    refine EV.bipush 40 rfl dX9_number_38 (v := 11) (by decide) ?_
    refine EV.istore_n 41 rfl 2 [some (.ref v0), some (.int v1), some (.int 11), none] rfl (by decide) rfl dX9_number_40 ?_
    refine EV.mask [true, false, true, false] (L' := [some (.ref v0), none, some (.int 11), none]) rfl ?_
    exact h
  · have h := h.2 c1
    refine EV.aload_n 10 rfl 0 rfl rfl dX9_number_9 ?_
    obtain ⟨w2, h⟩ := h
    obtain ⟨t3, g4, h⟩ := h
    refine EV.getR 13 rfl fl_X9_56 rfl dX9_number_10 w2 g4 ?_
    refine EV.iload_n 14 rfl 2 rfl rfl dX9_number_13 ?_
    refine EV.aload_n 15 rfl 0 rfl rfl dX9_number_14 ?_
    obtain ⟨t5, g6, h⟩ := h
    refine EV.getR 18 rfl fl_X9_24 rfl dX9_number_15 w2 g6 ?_
    refine EV.iload_n 19 rfl 1 rfl rfl dX9_number_18 ?_
    refine EV.iload_n 20 rfl 2 rfl rfl dX9_number_19 ?_
    refine EV.cS rfl lk_X9_65 rfl (vs := [.ref t5, .int v1, .int v2]) (st := [.int v2, .ref t3]) rfl rfl (Nat.le_of_ble_eq_true rfl) dX9_number_20 h (fun v σ7 h => ?_)
    obtain ⟨r8, rfl, h⟩ := h
    show EV Γ MX9_number d 23 [some (.ref v0), some (.int v1), some (.int v2), none] [.int r8, .int v2, .ref t3] σ7 Q
    refine EV.if_eq 26 30 rfl (by decide) dX9_number_23 (fun c9 => ?_) (fun c9 => ?_)
    · have h := h.1 c9
      refine EV.iconst 31 rfl dX9_number_30 (v := 0) (by decide) ?_
      obtain ⟨n11, w10, h⟩ := h
      obtain ⟨j12, x13, h⟩ := h
      refine EV.iast 32 rfl dX9_number_31 w10 x13 (EV.nm (fun σ14 e15 => ?_))
      have h := h σ14 e15
      have w16 := tr_hs (hs_setI_of e15) w10
      refine EV.iinc 35 rfl [some (.ref v0), some (.int v1), some (.int (v2 + 1)), none] (v := 1) (by decide) (by decide) rfl rfl dX9_number_32 ?_
      refine EV.goto 2 (by decide) dX9_number_35 ?_
      exact h
    · have h := h.2 c9
      refine EV.iconst 27 rfl dX9_number_26 (v := 1) (by decide) ?_
      refine EV.goto 31 (by decide) dX9_number_27 ?_
      obtain ⟨n18, w17, h⟩ := h
      obtain ⟨j19, x20, h⟩ := h
      refine EV.iast 32 rfl dX9_number_31 w17 x20 (EV.nm (fun σ21 e22 => ?_))
      have h := h σ21 e22
      have w23 := tr_hs (hs_setI_of e22) w17
      refine EV.iinc 35 rfl [some (.ref v0), some (.int v1), some (.int (v2 + 1)), none] (v := 1) (by decide) (by decide) rfl rfl dX9_number_32 ?_
      refine EV.goto 2 (by decide) dX9_number_35 ?_
      exact h
theorem gX9_number_41 {Γ : Gm} {d : Nat} {σ : AH} {Q : Oc → AH → Prop} {v0 : Nat} {v2 : Int32} (h : ((v2 < 0 → Q (.inl none) σ) ∧ (¬ v2 < 0 → EV Γ MX9_number d 47 [some (.ref v0), none, some (.int v2), some (.int 0)] [] σ Q))) : EV Γ MX9_number d 41 [some (.ref v0), none, some (.int v2), none] [] σ Q := by
  refine EV.iload_n 42 rfl 2 rfl rfl dX9_number_41 ?_
  refine EV.if_lt 45 93 rfl (by decide) dX9_number_42 (fun c1 => ?_) (fun c1 => ?_)
  · have h := h.1 c1
    exact EV.vret rfl dX9_number_93 h
  · have h := h.2 c1
    refine EV.iconst 46 rfl dX9_number_45 (v := 0) (by decide) ?_
    refine EV.istore_n 47 rfl 3 [some (.ref v0), none, some (.int v2), some (.int 0)] rfl (by decide) rfl dX9_number_46 ?_
    exact h
theorem gX9_number_47 {Γ : Gm} {d : Nat} {σ : AH} {Q : Oc → AH → Prop} {v0 : Nat} {v2 : Int32} {v3 : Int32} (h : ((((1 : Int32) <<< (v2 &&& 31)) ≤ v3 → EV Γ MX9_number d 41 [some (.ref v0), none, some (.int (v2 + (-1))), none] [] σ Q) ∧ (¬ ((1 : Int32) <<< (v2 &&& 31)) ≤ v3 → hs σ v0 = some (7, 27) ∧ ∃ t3 : Nat, gr σ v0 21 = some t3 ∧ ∃ n6 : Nat, hs σ t3 = some (22, n6) ∧ ∃ j7 : Nat, IX v3 n6 j7 ∧ ∃ j9 : Nat, IX (v3 + ((1 : Int32) <<< (v2 &&& 31))) n6 j9 ∧ CI Γ d MX9_nodeOf [.ref v0, .int v2, .int (gi σ t3 j7), .int (gi σ t3 j9)] σ (fun r12 σ11 => ∃ n14 : Nat, hs σ11 t3 = some (22, n14) ∧ ∃ j15 : Nat, IX v3 n14 j15 ∧ ∀ σ17 : AH, σ17 = setI σ11 t3 j15 r12 → EV Γ MX9_number d 47 [some (.ref v0), none, some (.int v2), some (.int (v3 + 1))] [] σ17 Q) (fun E σ11 => Q (.inr E) σ11)))) : EV Γ MX9_number d 47 [some (.ref v0), none, some (.int v2), some (.int v3)] [] σ Q := by
  refine EV.iload_n 48 rfl 3 rfl rfl dX9_number_47 ?_
  refine EV.iconst 49 rfl dX9_number_48 (v := 1) (by decide) ?_
  refine EV.iload_n 50 rfl 2 rfl rfl dX9_number_49 ?_
  refine EV.ishl 51 rfl dX9_number_50 ?_
  refine EV.icmp_ge 54 87 rfl (by decide) dX9_number_51 (fun c1 => ?_) (fun c1 => ?_)
  · have h := h.1 c1
    refine EV.iinc 90 rfl [some (.ref v0), none, some (.int (v2 + (-1))), some (.int v3)] (v := (-1)) (by decide) (by decide) rfl rfl dX9_number_87 ?_
    refine EV.goto 41 (by decide) dX9_number_90 ?_
    refine EV.mask [true, false, true, false] (L' := [some (.ref v0), none, some (.int (v2 + (-1))), none]) rfl ?_
    exact h
  · have h := h.2 c1
    refine EV.aload_n 55 rfl 0 rfl rfl dX9_number_54 ?_
    obtain ⟨w2, h⟩ := h
    obtain ⟨t3, g4, h⟩ := h
    refine EV.getR 58 rfl fl_X9_56 rfl dX9_number_55 w2 g4 ?_
    refine EV.iload_n 59 rfl 3 rfl rfl dX9_number_58 ?_
    refine EV.aload_n 60 rfl 0 rfl rfl dX9_number_59 ?_
    refine EV.iload_n 61 rfl 2 rfl rfl dX9_number_60 ?_
    refine EV.aload_n 62 rfl 0 rfl rfl dX9_number_61 ?_
    refine EV.getR 65 rfl fl_X9_56 rfl dX9_number_62 w2 g4 ?_
    refine EV.iload_n 66 rfl 3 rfl rfl dX9_number_65 ?_
    obtain ⟨n6, w5, h⟩ := h
    obtain ⟨j7, x8, h⟩ := h
    refine EV.iald 67 rfl dX9_number_66 w5 x8 ?_
    refine EV.aload_n 68 rfl 0 rfl rfl dX9_number_67 ?_
    refine EV.getR 71 rfl fl_X9_56 rfl dX9_number_68 w2 g4 ?_
    refine EV.iload_n 72 rfl 3 rfl rfl dX9_number_71 ?_
    refine EV.iconst 73 rfl dX9_number_72 (v := 1) (by decide) ?_
    refine EV.iload_n 74 rfl 2 rfl rfl dX9_number_73 ?_
    refine EV.ishl 75 rfl dX9_number_74 ?_
    refine EV.iadd 76 rfl dX9_number_75 ?_
    obtain ⟨j9, x10, h⟩ := h
    refine EV.iald 77 rfl dX9_number_76 w5 x10 ?_
    refine EV.cV rfl rfl lk_X9_119 rfl (vs := [.int v2, .int (gi σ t3 j7), .int (gi σ t3 j9)]) (st := [.int v3, .ref t3]) rfl rfl (Nat.le_of_ble_eq_true rfl) dX9_number_77 w2 h (fun v σ11 h => ?_)
    obtain ⟨r12, rfl, h⟩ := h
    show EV Γ MX9_number d 80 [some (.ref v0), none, some (.int v2), some (.int v3)] [.int r12, .int v3, .ref t3] σ11 Q
    obtain ⟨n14, w13, h⟩ := h
    obtain ⟨j15, x16, h⟩ := h
    refine EV.iast 81 rfl dX9_number_80 w13 x16 (EV.nm (fun σ17 e18 => ?_))
    have h := h σ17 e18
    have w19 := tr_hs (hs_setI_of e18) w13
    refine EV.iinc 84 rfl [some (.ref v0), none, some (.int v2), some (.int (v3 + 1))] (v := 1) (by decide) (by decide) rfl rfl dX9_number_81 ?_
    refine EV.goto 47 (by decide) dX9_number_84 ?_
    exact h
theorem gX9_countNodes_0 {Γ : Gm} {d : Nat} {σ : AH} {Q : Oc → AH → Prop} {v0 : Nat} {v1 : Int32} (h : hs σ v0 = some (7, 27) ∧ CV Γ d MX9_clearNodes [.ref v0] σ (fun σ1 => hs σ1 v0 = some (7, 27) ∧ CV Γ d MX9_number [.ref v0, .int v1] σ1 (fun σ4 => hs σ4 v0 = some (7, 27) ∧ Q (.inl (some (.int (gi σ4 v0 20)))) σ4) (fun E σ4 => Q (.inr E) σ4)) (fun E σ1 => Q (.inr E) σ1)) : EV Γ MX9_countNodes d 0 [some (.ref v0), some (.int v1)] [] σ Q := by
  refine EV.aload_n 1 rfl 0 rfl rfl dX9_countNodes_0 ?_
  obtain ⟨w3, h⟩ := h
  refine EV.cV rfl rfl lk_X9_127 rfl (vs := []) (st := []) rfl rfl (Nat.le_of_ble_eq_true rfl) dX9_countNodes_1 w3 h (fun v σ1 h => ?_)
  obtain ⟨rfl, h⟩ := h
  show EV Γ MX9_countNodes d 4 [some (.ref v0), some (.int v1)] [] σ1 Q
  refine EV.aload_n 5 rfl 0 rfl rfl dX9_countNodes_4 ?_
  refine EV.iload_n 6 rfl 1 rfl rfl dX9_countNodes_5 ?_
  obtain ⟨w6, h⟩ := h
  refine EV.cV rfl rfl lk_X9_130 rfl (vs := [.int v1]) (st := []) rfl rfl (Nat.le_of_ble_eq_true rfl) dX9_countNodes_6 w6 h (fun v σ4 h => ?_)
  obtain ⟨rfl, h⟩ := h
  show EV Γ MX9_countNodes d 9 [some (.ref v0), some (.int v1)] [] σ4 Q
  refine EV.aload_n 10 rfl 0 rfl rfl dX9_countNodes_9 ?_
  obtain ⟨w7, h⟩ := h
  refine EV.getI 13 rfl fl_X9_111 rfl dX9_countNodes_10 w7 ?_
  exact EV.iret rfl dX9_countNodes_13 h
theorem eX9_countNodes {Γ : Gm} {d : Nat} {σ : AH} {Q : Oc → AH → Prop} {v0 : Nat} {v1 : Int32} (h : hs σ v0 = some (7, 27) ∧ CV Γ d MX9_clearNodes [.ref v0] σ (fun σ1 => hs σ1 v0 = some (7, 27) ∧ CV Γ d MX9_number [.ref v0, .int v1] σ1 (fun σ4 => hs σ4 v0 = some (7, 27) ∧ Q (.inl (some (.int (gi σ4 v0 20)))) σ4) (fun E σ4 => Q (.inr E) σ4)) (fun E σ1 => Q (.inr E) σ1)) : RUN Γ d MX9_countNodes [.ref v0, .int v1] σ Q :=
  EV.enter [some (.ref v0), some (.int v1)] rfl (by decide +kernel) (Nat.le_of_ble_eq_true rfl) rfl (gX9_countNodes_0 h)
theorem gX9_countAllNodes_0 {Γ : Gm} {d : Nat} {σ : AH} {Q : Oc → AH → Prop} {v0 : Nat} (h : hs σ v0 = some (7, 27) ∧ CV Γ d MX9_clearNodes [.ref v0] σ (fun σ1 => EV Γ MX9_countAllNodes d 6 [some (.ref v0), some (.int 0)] [] σ1 Q) (fun E σ1 => Q (.inr E) σ1)) : EV Γ MX9_countAllNodes d 0 [some (.ref v0), none] [] σ Q := by
  refine EV.aload_n 1 rfl 0 rfl rfl dX9_countAllNodes_0 ?_
  obtain ⟨w3, h⟩ := h
  refine EV.cV rfl rfl lk_X9_127 rfl (vs := []) (st := []) rfl rfl (Nat.le_of_ble_eq_true rfl) dX9_countAllNodes_1 w3 h (fun v σ1 h => ?_)
  obtain ⟨rfl, h⟩ := h
  show EV Γ MX9_countAllNodes d 4 [some (.ref v0), none] [] σ1 Q
  refine EV.iconst 5 rfl dX9_countAllNodes_4 (v := 0) (by decide) ?_
  refine EV.istore_n 6 rfl 1 [some (.ref v0), some (.int 0)] rfl (by decide) rfl dX9_countAllNodes_5 ?_
  exact h
theorem eX9_countAllNodes {Γ : Gm} {d : Nat} {σ : AH} {Q : Oc → AH → Prop} {v0 : Nat} (h : hs σ v0 = some (7, 27) ∧ CV Γ d MX9_clearNodes [.ref v0] σ (fun σ1 => EV Γ MX9_countAllNodes d 6 [some (.ref v0), some (.int 0)] [] σ1 Q) (fun E σ1 => Q (.inr E) σ1)) : RUN Γ d MX9_countAllNodes [.ref v0] σ Q :=
  EV.enter [some (.ref v0), none] rfl (by decide +kernel) (Nat.le_of_ble_eq_true rfl) rfl (gX9_countAllNodes_0 h)
theorem gX9_countAllNodes_6 {Γ : Gm} {d : Nat} {σ : AH} {Q : Oc → AH → Prop} {v0 : Nat} {v1 : Int32} (h : hs σ v0 = some (7, 27) ∧ (((gi σ v0 6) ≤ v1 → Q (.inl (some (.int (gi σ v0 20)))) σ) ∧ (¬ (gi σ v0 6) ≤ v1 → ∃ t3 : Nat, gr σ v0 8 = some t3 ∧ ∃ n6 : Nat, hs σ t3 = some (21, n6) ∧ ∃ j7 : Nat, IX v1 n6 j7 ∧ (((gi σ t3 j7) ≠ 0 → EV Γ MX9_countAllNodes d 6 [some (.ref v0), some (.int (v1 + 1))] [] σ Q) ∧ ((gi σ t3 j7) = 0 → CV Γ d MX9_number [.ref v0, .int v1] σ (fun σ10 => EV Γ MX9_countAllNodes d 6 [some (.ref v0), some (.int (v1 + 1))] [] σ10 Q) (fun E σ10 => Q (.inr E) σ10)))))) : EV Γ MX9_countAllNodes d 6 [some (.ref v0), some (.int v1)] [] σ Q := by
  refine EV.iload_n 7 rfl 1 rfl rfl dX9_countAllNodes_6 ?_
  refine EV.aload_n 8 rfl 0 rfl rfl dX9_countAllNodes_7 ?_
  obtain ⟨w1, h⟩ := h
  refine EV.getI 11 rfl fl_X9_133 rfl dX9_countAllNodes_8 w1 ?_
  refine EV.icmp_ge 14 34 rfl (by decide) dX9_countAllNodes_11 (fun c2 => ?_) (fun c2 => ?_)
  · have h := h.1 c2
    refine EV.aload_n 35 rfl 0 rfl rfl dX9_countAllNodes_34 ?_
    refine EV.getI 38 rfl fl_X9_111 rfl dX9_countAllNodes_35 w1 ?_
    exact EV.iret rfl dX9_countAllNodes_38 h
  · have h := h.2 c2
    refine EV.aload_n 15 rfl 0 rfl rfl dX9_countAllNodes_14 ?_
    obtain ⟨t3, g4, h⟩ := h
    refine EV.getR 18 rfl fl_X9_20 rfl dX9_countAllNodes_15 w1 g4 ?_
    refine EV.iload_n 19 rfl 1 rfl rfl dX9_countAllNodes_18 ?_
    obtain ⟨n6, w5, h⟩ := h
    obtain ⟨j7, x8, h⟩ := h
    refine EV.zald 20 rfl dX9_countAllNodes_19 w5 x8 ?_
    refine EV.if_ne 23 28 rfl (by decide) dX9_countAllNodes_20 (fun c9 => ?_) (fun c9 => ?_)
    · have h := h.1 c9
      refine EV.iinc 31 rfl [some (.ref v0), some (.int (v1 + 1))] (v := 1) (by decide) (by decide) rfl rfl dX9_countAllNodes_28 ?_
      refine EV.goto 6 (by decide) dX9_countAllNodes_31 ?_
      exact h
    · have h := h.2 c9
      refine EV.aload_n 24 rfl 0 rfl rfl dX9_countAllNodes_23 ?_
      refine EV.iload_n 25 rfl 1 rfl rfl dX9_countAllNodes_24 ?_
      refine EV.cV rfl rfl lk_X9_130 rfl (vs := [.int v1]) (st := []) rfl rfl (Nat.le_of_ble_eq_true rfl) dX9_countAllNodes_25 w1 h (fun v σ10 h => ?_)
      obtain ⟨rfl, h⟩ := h
      show EV Γ MX9_countAllNodes d 28 [some (.ref v0), some (.int v1)] [] σ10 Q
      refine EV.iinc 31 rfl [some (.ref v0), some (.int (v1 + 1))] (v := 1) (by decide) (by decide) rfl rfl dX9_countAllNodes_28 ?_
      refine EV.goto 6 (by decide) dX9_countAllNodes_31 ?_
      exact h
theorem gX9_feed_0 {Γ : Gm} {d : Nat} {σ : AH} {Q : Oc → AH → Prop} {v0 : Nat} {v1 : Int32} {v2 : Int32} {v3 : Int32} {v4 : Int32} {v5 : Int32} (h : hs σ v0 = some (7, 27) ∧ ∀ σ2 : AH, σ2 = setI σ v0 0 0 → ((((gi σ2 v0 2) + 20) ≤ 200 → CV Γ d MX9_four [.ref v0, .int v1] σ2 (fun σ6 => hs σ6 v0 = some (7, 27) ∧ CV Γ d MX9_four [.ref v0, .int v2] σ6 (fun σ8 => hs σ8 v0 = some (7, 27) ∧ CV Γ d MX9_four [.ref v0, .int v3] σ8 (fun σ11 => hs σ11 v0 = some (7, 27) ∧ CV Γ d MX9_four [.ref v0, .int v4] σ11 (fun σ14 => hs σ14 v0 = some (7, 27) ∧ CV Γ d MX9_four [.ref v0, .int v5] σ14 (fun σ17 => hs σ17 v0 = some (7, 27) ∧ Q (.inl (some (.int (gi σ17 v0 2)))) σ17) (fun E σ17 => Q (.inr E) σ17)) (fun E σ14 => Q (.inr E) σ14)) (fun E σ11 => Q (.inr E) σ11)) (fun E σ8 => Q (.inr E) σ8)) (fun E σ6 => Q (.inr E) σ6)) ∧ (¬ ((gi σ2 v0 2) + 20) ≤ 200 → CI Γ d MX9_fail [.ref v0, .int 1] σ2 (fun r22 σ21 => Q (.inl (some (.int r22))) σ21) (fun E σ21 => Q (.inr E) σ21)))) : EV Γ MX9_feed d 0 [some (.ref v0), some (.int v1), some (.int v2), some (.int v3), some (.int v4), some (.int v5)] [] σ Q := by
  refine EV.aload_n 1 rfl 0 rfl rfl dX9_feed_0 ?_
  refine EV.iconst 2 rfl dX9_feed_1 (v := 0) (by decide) ?_
  obtain ⟨w1, h⟩ := h
  refine EV.putI 5 rfl fw_X9_62 rfl (by decide) dX9_feed_2 w1 (EV.nm (fun σ2 e3 => ?_))
  have h := h σ2 e3
  have w4 := tr_hs (hs_setI_of e3) w1
  refine EV.aload_n 6 rfl 0 rfl rfl dX9_feed_5 ?_
  refine EV.getI 9 rfl fl_X9_136 rfl dX9_feed_6 w4 ?_
  refine EV.bipush 11 rfl dX9_feed_9 (v := 20) (by decide) ?_
  refine EV.iadd 12 rfl dX9_feed_11 ?_
  refine EV.sipush 15 rfl dX9_feed_12 (v := 200) (by decide) ?_
  refine EV.icmp_le 18 24 rfl (by decide) dX9_feed_15 (fun c5 => ?_) (fun c5 => ?_)
  · have h := h.1 c5
    refine EV.aload_n 25 rfl 0 rfl rfl dX9_feed_24 ?_
    refine EV.iload_n 26 rfl 1 rfl rfl dX9_feed_25 ?_
    refine EV.cV rfl rfl lk_X9_143 rfl (vs := [.int v1]) (st := []) rfl rfl (Nat.le_of_ble_eq_true rfl) dX9_feed_26 w4 h (fun v σ6 h => ?_)
    obtain ⟨rfl, h⟩ := h
    show EV Γ MX9_feed d 29 [some (.ref v0), some (.int v1), some (.int v2), some (.int v3), some (.int v4), some (.int v5)] [] σ6 Q
    refine EV.aload_n 30 rfl 0 rfl rfl dX9_feed_29 ?_
    refine EV.iload_n 31 rfl 2 rfl rfl dX9_feed_30 ?_
    obtain ⟨w10, h⟩ := h
    refine EV.cV rfl rfl lk_X9_143 rfl (vs := [.int v2]) (st := []) rfl rfl (Nat.le_of_ble_eq_true rfl) dX9_feed_31 w10 h (fun v σ8 h => ?_)
    obtain ⟨rfl, h⟩ := h
    show EV Γ MX9_feed d 34 [some (.ref v0), some (.int v1), some (.int v2), some (.int v3), some (.int v4), some (.int v5)] [] σ8 Q
    refine EV.aload_n 35 rfl 0 rfl rfl dX9_feed_34 ?_
    refine EV.iload_n 36 rfl 3 rfl rfl dX9_feed_35 ?_
    obtain ⟨w13, h⟩ := h
    refine EV.cV rfl rfl lk_X9_143 rfl (vs := [.int v3]) (st := []) rfl rfl (Nat.le_of_ble_eq_true rfl) dX9_feed_36 w13 h (fun v σ11 h => ?_)
    obtain ⟨rfl, h⟩ := h
    show EV Γ MX9_feed d 39 [some (.ref v0), some (.int v1), some (.int v2), some (.int v3), some (.int v4), some (.int v5)] [] σ11 Q
    refine EV.aload_n 40 rfl 0 rfl rfl dX9_feed_39 ?_
    refine EV.iload 42 rfl rfl dX9_feed_40 ?_
    obtain ⟨w16, h⟩ := h
    refine EV.cV rfl rfl lk_X9_143 rfl (vs := [.int v4]) (st := []) rfl rfl (Nat.le_of_ble_eq_true rfl) dX9_feed_42 w16 h (fun v σ14 h => ?_)
    obtain ⟨rfl, h⟩ := h
    show EV Γ MX9_feed d 45 [some (.ref v0), some (.int v1), some (.int v2), some (.int v3), some (.int v4), some (.int v5)] [] σ14 Q
    refine EV.aload_n 46 rfl 0 rfl rfl dX9_feed_45 ?_
    refine EV.iload 48 rfl rfl dX9_feed_46 ?_
    obtain ⟨w19, h⟩ := h
    refine EV.cV rfl rfl lk_X9_143 rfl (vs := [.int v5]) (st := []) rfl rfl (Nat.le_of_ble_eq_true rfl) dX9_feed_48 w19 h (fun v σ17 h => ?_)
    obtain ⟨rfl, h⟩ := h
    show EV Γ MX9_feed d 51 [some (.ref v0), some (.int v1), some (.int v2), some (.int v3), some (.int v4), some (.int v5)] [] σ17 Q
    refine EV.aload_n 52 rfl 0 rfl rfl dX9_feed_51 ?_
    obtain ⟨w20, h⟩ := h
    refine EV.getI 55 rfl fl_X9_136 rfl dX9_feed_52 w20 ?_
    exact EV.iret rfl dX9_feed_55 h
  · have h := h.2 c5
    refine EV.aload_n 19 rfl 0 rfl rfl dX9_feed_18 ?_
    refine EV.iconst 20 rfl dX9_feed_19 (v := 1) (by decide) ?_
    refine EV.cV rfl rfl lk_X9_139 rfl (vs := [.int 1]) (st := []) rfl rfl (Nat.le_of_ble_eq_true rfl) dX9_feed_20 w4 h (fun v σ21 h => ?_)
    obtain ⟨r22, rfl, h⟩ := h
    show EV Γ MX9_feed d 23 [some (.ref v0), some (.int v1), some (.int v2), some (.int v3), some (.int v4), some (.int v5)] [.int r22] σ21 Q
    exact EV.iret rfl dX9_feed_23 h
theorem eX9_feed {Γ : Gm} {d : Nat} {σ : AH} {Q : Oc → AH → Prop} {v0 : Nat} {v1 : Int32} {v2 : Int32} {v3 : Int32} {v4 : Int32} {v5 : Int32} (h : hs σ v0 = some (7, 27) ∧ ∀ σ2 : AH, σ2 = setI σ v0 0 0 → ((((gi σ2 v0 2) + 20) ≤ 200 → CV Γ d MX9_four [.ref v0, .int v1] σ2 (fun σ6 => hs σ6 v0 = some (7, 27) ∧ CV Γ d MX9_four [.ref v0, .int v2] σ6 (fun σ8 => hs σ8 v0 = some (7, 27) ∧ CV Γ d MX9_four [.ref v0, .int v3] σ8 (fun σ11 => hs σ11 v0 = some (7, 27) ∧ CV Γ d MX9_four [.ref v0, .int v4] σ11 (fun σ14 => hs σ14 v0 = some (7, 27) ∧ CV Γ d MX9_four [.ref v0, .int v5] σ14 (fun σ17 => hs σ17 v0 = some (7, 27) ∧ Q (.inl (some (.int (gi σ17 v0 2)))) σ17) (fun E σ17 => Q (.inr E) σ17)) (fun E σ14 => Q (.inr E) σ14)) (fun E σ11 => Q (.inr E) σ11)) (fun E σ8 => Q (.inr E) σ8)) (fun E σ6 => Q (.inr E) σ6)) ∧ (¬ ((gi σ2 v0 2) + 20) ≤ 200 → CI Γ d MX9_fail [.ref v0, .int 1] σ2 (fun r22 σ21 => Q (.inl (some (.int r22))) σ21) (fun E σ21 => Q (.inr E) σ21)))) : RUN Γ d MX9_feed [.ref v0, .int v1, .int v2, .int v3, .int v4, .int v5] σ Q :=
  EV.enter [some (.ref v0), some (.int v1), some (.int v2), some (.int v3), some (.int v4), some (.int v5)] rfl (by decide +kernel) (Nat.le_of_ble_eq_true rfl) rfl (gX9_feed_0 h)
theorem gX9_four_0 {Γ : Gm} {d : Nat} {σ : AH} {Q : Oc → AH → Prop} {v0 : Nat} {v1 : Int32} (h : EV Γ MX9_four d 3 [some (.ref v0), some (.int v1), some (.int 24)] [] σ Q) : EV Γ MX9_four d 0 [some (.ref v0), some (.int v1), none] [] σ Q := by
  refine EV.bipush 2 rfl dX9_four_0 (v := 24) (by decide) ?_
  refine EV.istore_n 3 rfl 2 [some (.ref v0), some (.int v1), some (.int 24)] rfl (by decide) rfl dX9_four_2 ?_
  exact h
theorem eX9_four {Γ : Gm} {d : Nat} {σ : AH} {Q : Oc → AH → Prop} {v0 : Nat} {v1 : Int32} (h : EV Γ MX9_four d 3 [some (.ref v0), some (.int v1), some (.int 24)] [] σ Q) : RUN Γ d MX9_four [.ref v0, .int v1] σ Q :=
  EV.enter [some (.ref v0), some (.int v1), none] rfl (by decide +kernel) (Nat.le_of_ble_eq_true rfl) rfl (gX9_four_0 h)
theorem gX9_four_3 {Γ : Gm} {d : Nat} {σ : AH} {Q : Oc → AH → Prop} {v0 : Nat} {v1 : Int32} {v2 : Int32} (h : ((v2 < 0 → Q (.inl none) σ) ∧ (¬ v2 < 0 → hs σ v0 = some (7, 27) ∧ ∃ t3 : Nat, gr σ v0 1 = some t3 ∧ ∃ n6 : Nat, hs σ t3 = some (20, n6) ∧ ∃ j7 : Nat, IX (gi σ v0 2) n6 j7 ∧ ∀ σ9 : AH, σ9 = setI σ t3 j7 (vp_nar .byte (Int8.toInt32 (Int32.toInt8 (v1 >>> (v2 &&& 31))))) → ∀ σ14 : AH, σ14 = setI σ9 v0 2 ((gi σ9 v0 2) + 1) → EV Γ MX9_four d 3 [some (.ref v0), some (.int v1), some (.int (v2 + (-8)))] [] σ14 Q))) : EV Γ MX9_four d 3 [some (.ref v0), some (.int v1), some (.int v2)] [] σ Q := by
  refine EV.iload_n 4 rfl 2 rfl rfl dX9_four_3 ?_
  refine EV.if_lt 7 36 rfl (by decide) dX9_four_4 (fun c1 => ?_) (fun c1 => ?_)
  · have h := h.1 c1
    exact EV.vret rfl dX9_four_36 h
  · have h := h.2 c1
    refine EV.aload_n 8 rfl 0 rfl rfl dX9_four_7 ?_
    obtain ⟨w2, h⟩ := h
    obtain ⟨t3, g4, h⟩ := h
    refine EV.getR 11 rfl fl_X9_9 rfl dX9_four_8 w2 g4 ?_
    refine EV.aload_n 12 rfl 0 rfl rfl dX9_four_11 ?_
    refine EV.getI 15 rfl fl_X9_136 rfl dX9_four_12 w2 ?_
    refine EV.iload_n 16 rfl 1 rfl rfl dX9_four_15 ?_
    refine EV.iload_n 17 rfl 2 rfl rfl dX9_four_16 ?_
    refine EV.ishr 18 rfl dX9_four_17 ?_
    refine EV.i2b 19 rfl dX9_four_18 ?_
    obtain ⟨n6, w5, h⟩ := h
    obtain ⟨j7, x8, h⟩ := h
    refine EV.bast 20 rfl dX9_four_19 w5 x8 (EV.nm (fun σ9 e10 => ?_))
    have h := h σ9 e10
    have w11 := tr_hs (hs_setI_of e10) w2
    have w12 := tr_hs (hs_setI_of e10) w5
    have g13 := tr_gr (gr_setI_of e10) g4
    refine EV.aload_n 21 rfl 0 rfl rfl dX9_four_20 ?_
    refine EV.dup 22 rfl dX9_four_21 rfl ?_
    refine EV.getI 25 rfl fl_X9_136 rfl dX9_four_22 w11 ?_
    refine EV.iconst 26 rfl dX9_four_25 (v := 1) (by decide) ?_
    refine EV.iadd 27 rfl dX9_four_26 ?_
    refine EV.putI 30 rfl fw_X9_136 rfl (by decide) dX9_four_27 w11 (EV.nm (fun σ14 e15 => ?_))
    have h := h σ14 e15
    have w16 := tr_hs (hs_setI_of e15) w11
    have w17 := tr_hs (hs_setI_of e15) w12
    have g18 := tr_gr (gr_setI_of e15) g13
    refine EV.iinc 33 rfl [some (.ref v0), some (.int v1), some (.int (v2 + (-8)))] (v := (-8)) (by decide) (by decide) rfl rfl dX9_four_30 ?_
    refine EV.goto 3 (by decide) dX9_four_33 ?_
    exact h
theorem gX9_trim_0 {Γ : Gm} {d : Nat} {σ : AH} {Q : Oc → AH → Prop} {v0 : Nat} {v1 : Int32} (h : hs σ v0 = some (7, 27) ∧ ∀ σ2 : AH, σ2 = setI σ v0 0 0 → ((v1 < 0 → EV Γ MX9_trim d 17 [some (.ref v0), none] [] σ2 Q) ∧ (¬ v1 < 0 → ((v1 ≤ (gi σ2 v0 2) → ∀ σ7 : AH, σ7 = setI σ2 v0 2 v1 → Q (.inl (some (.int v1))) σ7) ∧ (¬ v1 ≤ (gi σ2 v0 2) → EV Γ MX9_trim d 17 [some (.ref v0), none] [] σ2 Q))))) : EV Γ MX9_trim d 0 [some (.ref v0), some (.int v1)] [] σ Q := by
  refine EV.aload_n 1 rfl 0 rfl rfl dX9_trim_0 ?_
  refine EV.iconst 2 rfl dX9_trim_1 (v := 0) (by decide) ?_
  obtain ⟨w1, h⟩ := h
  refine EV.putI 5 rfl fw_X9_62 rfl (by decide) dX9_trim_2 w1 (EV.nm (fun σ2 e3 => ?_))
  have h := h σ2 e3
  have w4 := tr_hs (hs_setI_of e3) w1
  refine EV.iload_n 6 rfl 1 rfl rfl dX9_trim_5 ?_
  refine EV.if_lt 9 17 rfl (by decide) dX9_trim_6 (fun c5 => ?_) (fun c5 => ?_)
  · have h := h.1 c5
    refine EV.mask [true, false] (L' := [some (.ref v0), none]) rfl ?_
    exact h
  · have h := h.2 c5
    refine EV.iload_n 10 rfl 1 rfl rfl dX9_trim_9 ?_
    refine EV.aload_n 11 rfl 0 rfl rfl dX9_trim_10 ?_
    refine EV.getI 14 rfl fl_X9_136 rfl dX9_trim_11 w4 ?_
    refine EV.icmp_le 17 23 rfl (by decide) dX9_trim_14 (fun c6 => ?_) (fun c6 => ?_)
    · have h := h.1 c6
      refine EV.aload_n 24 rfl 0 rfl rfl dX9_trim_23 ?_
      refine EV.iload_n 25 rfl 1 rfl rfl dX9_trim_24 ?_
      refine EV.putI 28 rfl fw_X9_136 rfl (by decide) dX9_trim_25 w4 (EV.nm (fun σ7 e8 => ?_))
      have h := h σ7 e8
      have w9 := tr_hs (hs_setI_of e8) w4
      refine EV.iload_n 29 rfl 1 rfl rfl dX9_trim_28 ?_
      exact EV.iret rfl dX9_trim_29 h
    · have h := h.2 c6
      refine EV.mask [true, false] (L' := [some (.ref v0), none]) rfl ?_
      exact h
theorem eX9_trim {Γ : Gm} {d : Nat} {σ : AH} {Q : Oc → AH → Prop} {v0 : Nat} {v1 : Int32} (h : hs σ v0 = some (7, 27) ∧ ∀ σ2 : AH, σ2 = setI σ v0 0 0 → ((v1 < 0 → EV Γ MX9_trim d 17 [some (.ref v0), none] [] σ2 Q) ∧ (¬ v1 < 0 → ((v1 ≤ (gi σ2 v0 2) → ∀ σ7 : AH, σ7 = setI σ2 v0 2 v1 → Q (.inl (some (.int v1))) σ7) ∧ (¬ v1 ≤ (gi σ2 v0 2) → EV Γ MX9_trim d 17 [some (.ref v0), none] [] σ2 Q))))) : RUN Γ d MX9_trim [.ref v0, .int v1] σ Q :=
  EV.enter [some (.ref v0), some (.int v1)] rfl (by decide +kernel) (Nat.le_of_ble_eq_true rfl) rfl (gX9_trim_0 h)
theorem gX9_trim_17 {Γ : Gm} {d : Nat} {σ : AH} {Q : Oc → AH → Prop} {v0 : Nat} (h : hs σ v0 = some (7, 27) ∧ CI Γ d MX9_fail [.ref v0, .int 1] σ (fun r2 σ1 => Q (.inl (some (.int r2))) σ1) (fun E σ1 => Q (.inr E) σ1)) : EV Γ MX9_trim d 17 [some (.ref v0), none] [] σ Q := by
  refine EV.aload_n 18 rfl 0 rfl rfl dX9_trim_17 ?_
  refine EV.iconst 19 rfl dX9_trim_18 (v := 1) (by decide) ?_
  obtain ⟨w3, h⟩ := h
  refine EV.cV rfl rfl lk_X9_139 rfl (vs := [.int 1]) (st := []) rfl rfl (Nat.le_of_ble_eq_true rfl) dX9_trim_19 w3 h (fun v σ1 h => ?_)
  obtain ⟨r2, rfl, h⟩ := h
  show EV Γ MX9_trim d 22 [some (.ref v0), none] [.int r2] σ1 Q
  exact EV.iret rfl dX9_trim_22 h
theorem gX9_wrong_0 {Γ : Gm} {d : Nat} {σ : AH} {Q : Oc → AH → Prop} {v0 : Nat} {v1 : Int32} (h : hs σ v0 = some (7, 27) ∧ ((0 ≤ (gi σ v0 26) → Q (.inl none) σ) ∧ (¬ 0 ≤ (gi σ v0 26) → ∀ σ3 : AH, σ3 = setI σ v0 26 v1 → Q (.inl none) σ3))) : EV Γ MX9_wrong d 0 [some (.ref v0), some (.int v1)] [] σ Q := by
  refine EV.aload_n 1 rfl 0 rfl rfl dX9_wrong_0 ?_
  obtain ⟨w1, h⟩ := h
  refine EV.getI 4 rfl fl_X9_146 rfl dX9_wrong_1 w1 ?_
  refine EV.if_ge 7 12 rfl (by decide) dX9_wrong_4 (fun c2 => ?_) (fun c2 => ?_)
  · have h := h.1 c2
    exact EV.vret rfl dX9_wrong_12 h
  · have h := h.2 c2
    refine EV.aload_n 8 rfl 0 rfl rfl dX9_wrong_7 ?_
    refine EV.iload_n 9 rfl 1 rfl rfl dX9_wrong_8 ?_
    refine EV.putI 12 rfl fw_X9_146 rfl (by decide) dX9_wrong_9 w1 (EV.nm (fun σ3 e4 => ?_))
    have h := h σ3 e4
    have w5 := tr_hs (hs_setI_of e4) w1
    exact EV.vret rfl dX9_wrong_12 h
theorem eX9_wrong {Γ : Gm} {d : Nat} {σ : AH} {Q : Oc → AH → Prop} {v0 : Nat} {v1 : Int32} (h : hs σ v0 = some (7, 27) ∧ ((0 ≤ (gi σ v0 26) → Q (.inl none) σ) ∧ (¬ 0 ≤ (gi σ v0 26) → ∀ σ3 : AH, σ3 = setI σ v0 26 v1 → Q (.inl none) σ3))) : RUN Γ d MX9_wrong [.ref v0, .int v1] σ Q :=
  EV.enter [some (.ref v0), some (.int v1)] rfl (by decide +kernel) (Nat.le_of_ble_eq_true rfl) rfl (gX9_wrong_0 h)
theorem gX9_look_0 {Γ : Gm} {d : Nat} {σ : AH} {Q : Oc → AH → Prop} {v0 : Nat} (h : hs σ v0 = some (7, 27) ∧ (((gi σ v0 2) ≤ (gi σ v0 24) → EV Γ MX9_look d 38 [some (.ref v0)] [] σ Q) ∧ (¬ (gi σ v0 2) ≤ (gi σ v0 24) → ∃ t3 : Nat, gr σ v0 1 = some t3 ∧ ∃ n6 : Nat, hs σ t3 = some (20, n6) ∧ ∃ j7 : Nat, IX (gi σ v0 24) n6 j7 ∧ (((gi σ t3 j7) ≠ 32 → EV Γ MX9_look d 38 [some (.ref v0)] [] σ Q) ∧ ((gi σ t3 j7) = 32 → ∀ σ10 : AH, σ10 = setI σ v0 24 ((gi σ v0 24) + 1) → EV Γ MX9_look d 0 [some (.ref v0)] [] σ10 Q))))) : EV Γ MX9_look d 0 [some (.ref v0)] [] σ Q := by
  refine EV.aload_n 1 rfl 0 rfl rfl dX9_look_0 ?_
  obtain ⟨w1, h⟩ := h
  refine EV.getI 4 rfl fl_X9_149 rfl dX9_look_1 w1 ?_
  refine EV.aload_n 5 rfl 0 rfl rfl dX9_look_4 ?_
  refine EV.getI 8 rfl fl_X9_136 rfl dX9_look_5 w1 ?_
  refine EV.icmp_ge 11 38 rfl (by decide) dX9_look_8 (fun c2 => ?_) (fun c2 => ?_)
  · have h := h.1 c2
    exact h
  · have h := h.2 c2
    refine EV.aload_n 12 rfl 0 rfl rfl dX9_look_11 ?_
    obtain ⟨t3, g4, h⟩ := h
    refine EV.getR 15 rfl fl_X9_9 rfl dX9_look_12 w1 g4 ?_
    refine EV.aload_n 16 rfl 0 rfl rfl dX9_look_15 ?_
    refine EV.getI 19 rfl fl_X9_149 rfl dX9_look_16 w1 ?_
    obtain ⟨n6, w5, h⟩ := h
    obtain ⟨j7, x8, h⟩ := h
    refine EV.bald 20 rfl dX9_look_19 w5 x8 ?_
    refine EV.bipush 22 rfl dX9_look_20 (v := 32) (by decide) ?_
    refine EV.icmp_ne 25 38 rfl (by decide) dX9_look_22 (fun c9 => ?_) (fun c9 => ?_)
    · have h := h.1 c9
      exact h
    · have h := h.2 c9
      refine EV.aload_n 26 rfl 0 rfl rfl dX9_look_25 ?_
      refine EV.dup 27 rfl dX9_look_26 rfl ?_
      refine EV.getI 30 rfl fl_X9_149 rfl dX9_look_27 w1 ?_
      refine EV.iconst 31 rfl dX9_look_30 (v := 1) (by decide) ?_
      refine EV.iadd 32 rfl dX9_look_31 ?_
      refine EV.putI 35 rfl fw_X9_149 rfl (by decide) dX9_look_32 w1 (EV.nm (fun σ10 e11 => ?_))
      have h := h σ10 e11
      have w12 := tr_hs (hs_setI_of e11) w1
      have w13 := tr_hs (hs_setI_of e11) w5
      have g14 := tr_gr (gr_setI_of e11) g4
      refine EV.goto 0 (by decide) dX9_look_35 ?_
      exact h
theorem eX9_look {Γ : Gm} {d : Nat} {σ : AH} {Q : Oc → AH → Prop} {v0 : Nat} (h : hs σ v0 = some (7, 27) ∧ (((gi σ v0 2) ≤ (gi σ v0 24) → EV Γ MX9_look d 38 [some (.ref v0)] [] σ Q) ∧ (¬ (gi σ v0 2) ≤ (gi σ v0 24) → ∃ t3 : Nat, gr σ v0 1 = some t3 ∧ ∃ n6 : Nat, hs σ t3 = some (20, n6) ∧ ∃ j7 : Nat, IX (gi σ v0 24) n6 j7 ∧ (((gi σ t3 j7) ≠ 32 → EV Γ MX9_look d 38 [some (.ref v0)] [] σ Q) ∧ ((gi σ t3 j7) = 32 → ∀ σ10 : AH, σ10 = setI σ v0 24 ((gi σ v0 24) + 1) → EV Γ MX9_look d 0 [some (.ref v0)] [] σ10 Q))))) : RUN Γ d MX9_look [.ref v0] σ Q :=
  EV.enter [some (.ref v0)] rfl (by decide +kernel) (Nat.le_of_ble_eq_true rfl) rfl (gX9_look_0 h)
theorem gX9_look_38 {Γ : Gm} {d : Nat} {σ : AH} {Q : Oc → AH → Prop} {v0 : Nat} (h : hs σ v0 = some (7, 27) ∧ (((gi σ v0 2) ≤ (gi σ v0 24) → Q (.inl (some (.int (-1)))) σ) ∧ (¬ (gi σ v0 2) ≤ (gi σ v0 24) → ∃ t3 : Nat, gr σ v0 1 = some t3 ∧ ∃ n6 : Nat, hs σ t3 = some (20, n6) ∧ ∃ j7 : Nat, IX (gi σ v0 24) n6 j7 ∧ Q (.inl (some (.int ((gi σ t3 j7) &&& 255)))) σ))) : EV Γ MX9_look d 38 [some (.ref v0)] [] σ Q := by
  refine EV.aload_n 39 rfl 0 rfl rfl dX9_look_38 ?_
  obtain ⟨w1, h⟩ := h
  refine EV.getI 42 rfl fl_X9_149 rfl dX9_look_39 w1 ?_
  refine EV.aload_n 43 rfl 0 rfl rfl dX9_look_42 ?_
  refine EV.getI 46 rfl fl_X9_136 rfl dX9_look_43 w1 ?_
  refine EV.icmp_ge 49 65 rfl (by decide) dX9_look_46 (fun c2 => ?_) (fun c2 => ?_)
  · have h := h.1 c2
    refine EV.iconst 66 rfl dX9_look_65 (v := (-1)) (by decide) ?_
    exact EV.iret rfl dX9_look_66 h
  · have h := h.2 c2
    refine EV.aload_n 50 rfl 0 rfl rfl dX9_look_49 ?_
    obtain ⟨t3, g4, h⟩ := h
    refine EV.getR 53 rfl fl_X9_9 rfl dX9_look_50 w1 g4 ?_
    refine EV.aload_n 54 rfl 0 rfl rfl dX9_look_53 ?_
    refine EV.getI 57 rfl fl_X9_149 rfl dX9_look_54 w1 ?_
    obtain ⟨n6, w5, h⟩ := h
    obtain ⟨j7, x8, h⟩ := h
    refine EV.bald 58 rfl dX9_look_57 w5 x8 ?_
    refine EV.sipush 61 rfl dX9_look_58 (v := 255) (by decide) ?_
    refine EV.iand 62 rfl dX9_look_61 ?_
    refine EV.goto 66 (by decide) dX9_look_62 ?_
    exact EV.iret rfl dX9_look_66 h
theorem gX9_add_0 {Γ : Gm} {d : Nat} {σ : AH} {Q : Oc → AH → Prop} {v0 : Nat} {v1 : Int32} (h : hs σ v0 = some (7, 27) ∧ ∃ t2 : Nat, gr σ v0 22 = some t2 ∧ ∃ n5 : Nat, hs σ t2 = some (22, n5) ∧ ∃ j6 : Nat, IX (gi σ v0 23) n5 j6 ∧ ∀ σ8 : AH, σ8 = setI σ t2 j6 v1 → ∀ σ13 : AH, σ13 = setI σ8 v0 23 ((gi σ8 v0 23) + 1) → Q (.inl none) σ13) : EV Γ MX9_add d 0 [some (.ref v0), some (.int v1)] [] σ Q := by
  refine EV.aload_n 1 rfl 0 rfl rfl dX9_add_0 ?_
  obtain ⟨w1, h⟩ := h
  obtain ⟨t2, g3, h⟩ := h
  refine EV.getR 4 rfl fl_X9_59 rfl dX9_add_1 w1 g3 ?_
  refine EV.aload_n 5 rfl 0 rfl rfl dX9_add_4 ?_
  refine EV.getI 8 rfl fl_X9_152 rfl dX9_add_5 w1 ?_
  refine EV.iload_n 9 rfl 1 rfl rfl dX9_add_8 ?_
  obtain ⟨n5, w4, h⟩ := h
  obtain ⟨j6, x7, h⟩ := h
  refine EV.iast 10 rfl dX9_add_9 w4 x7 (EV.nm (fun σ8 e9 => ?_))
  have h := h σ8 e9
  have w10 := tr_hs (hs_setI_of e9) w1
  have w11 := tr_hs (hs_setI_of e9) w4
  have g12 := tr_gr (gr_setI_of e9) g3
  refine EV.aload_n 11 rfl 0 rfl rfl dX9_add_10 ?_
  refine EV.dup 12 rfl dX9_add_11 rfl ?_
  refine EV.getI 15 rfl fl_X9_152 rfl dX9_add_12 w10 ?_
  refine EV.iconst 16 rfl dX9_add_15 (v := 1) (by decide) ?_
  refine EV.iadd 17 rfl dX9_add_16 ?_
  refine EV.putI 20 rfl fw_X9_152 rfl (by decide) dX9_add_17 w10 (EV.nm (fun σ13 e14 => ?_))
  have h := h σ13 e14
  have w15 := tr_hs (hs_setI_of e14) w10
  have w16 := tr_hs (hs_setI_of e14) w11
  have g17 := tr_gr (gr_setI_of e14) g12
  exact EV.vret rfl dX9_add_20 h
theorem eX9_add {Γ : Gm} {d : Nat} {σ : AH} {Q : Oc → AH → Prop} {v0 : Nat} {v1 : Int32} (h : hs σ v0 = some (7, 27) ∧ ∃ t2 : Nat, gr σ v0 22 = some t2 ∧ ∃ n5 : Nat, hs σ t2 = some (22, n5) ∧ ∃ j6 : Nat, IX (gi σ v0 23) n5 j6 ∧ ∀ σ8 : AH, σ8 = setI σ t2 j6 v1 → ∀ σ13 : AH, σ13 = setI σ8 v0 23 ((gi σ8 v0 23) + 1) → Q (.inl none) σ13) : RUN Γ d MX9_add [.ref v0, .int v1] σ Q :=
  EV.enter [some (.ref v0), some (.int v1)] rfl (by decide +kernel) (Nat.le_of_ble_eq_true rfl) rfl (gX9_add_0 h)
theorem gX9_sum_0 {Γ : Gm} {d : Nat} {σ : AH} {Q : Oc → AH → Prop} {v0 : Nat} (h : hs σ v0 = some (7, 27) ∧ CV Γ d MX9_product [.ref v0] σ (fun σ1 => hs σ1 v0 = some (7, 27) ∧ CI Γ d MX9_look [.ref v0] σ1 (fun r5 σ4 => EV Γ MX9_sum d 9 [some (.ref v0), some (.int r5)] [] σ4 Q) (fun E σ4 => Q (.inr E) σ4)) (fun E σ1 => Q (.inr E) σ1)) : EV Γ MX9_sum d 0 [some (.ref v0), none] [] σ Q := by
  refine EV.aload_n 1 rfl 0 rfl rfl dX9_sum_0 ?_
  obtain ⟨w3, h⟩ := h
  refine EV.cV rfl rfl lk_X9_155 rfl (vs := []) (st := []) rfl rfl (Nat.le_of_ble_eq_true rfl) dX9_sum_1 w3 h (fun v σ1 h => ?_)
  obtain ⟨rfl, h⟩ := h
  show EV Γ MX9_sum d 4 [some (.ref v0), none] [] σ1 Q
  refine EV.aload_n 5 rfl 0 rfl rfl dX9_sum_4 ?_
  obtain ⟨w6, h⟩ := h
  refine EV.cV rfl rfl lk_X9_158 rfl (vs := []) (st := []) rfl rfl (Nat.le_of_ble_eq_true rfl) dX9_sum_5 w6 h (fun v σ4 h => ?_)
  obtain ⟨r5, rfl, h⟩ := h
  show EV Γ MX9_sum d 8 [some (.ref v0), none] [.int r5] σ4 Q
  refine EV.istore_n 9 rfl 1 [some (.ref v0), some (.int r5)] rfl (by decide) rfl dX9_sum_8 ?_
  exact h
theorem eX9_sum {Γ : Gm} {d : Nat} {σ : AH} {Q : Oc → AH → Prop} {v0 : Nat} (h : hs σ v0 = some (7, 27) ∧ CV Γ d MX9_product [.ref v0] σ (fun σ1 => hs σ1 v0 = some (7, 27) ∧ CI Γ d MX9_look [.ref v0] σ1 (fun r5 σ4 => EV Γ MX9_sum d 9 [some (.ref v0), some (.int r5)] [] σ4 Q) (fun E σ4 => Q (.inr E) σ4)) (fun E σ1 => Q (.inr E) σ1)) : RUN Γ d MX9_sum [.ref v0] σ Q :=
  EV.enter [some (.ref v0), none] rfl (by decide +kernel) (Nat.le_of_ble_eq_true rfl) rfl (gX9_sum_0 h)
theorem gX9_sum_9 {Γ : Gm} {d : Nat} {σ : AH} {Q : Oc → AH → Prop} {v0 : Nat} {v1 : Int32} (h : hs σ v0 = some (7, 27) ∧ ((0 ≤ (gi σ v0 26) → Q (.inl none) σ) ∧ (¬ 0 ≤ (gi σ v0 26) → ((v1 = 43 → EV Γ MX9_sum d 34 [some (.ref v0), some (.int v1)] [] σ Q) ∧ (¬ v1 = 43 → ((v1 = 45 → EV Γ MX9_sum d 34 [some (.ref v0), some (.int v1)] [] σ Q) ∧ (¬ v1 = 45 → ((v1 ≠ 38 → Q (.inl none) σ) ∧ (v1 = 38 → EV Γ MX9_sum d 34 [some (.ref v0), some (.int v1)] [] σ Q))))))))) : EV Γ MX9_sum d 9 [some (.ref v0), some (.int v1)] [] σ Q := by
  refine EV.aload_n 10 rfl 0 rfl rfl dX9_sum_9 ?_
  obtain ⟨w1, h⟩ := h
  refine EV.getI 13 rfl fl_X9_146 rfl dX9_sum_10 w1 ?_
  refine EV.if_ge 16 81 rfl (by decide) dX9_sum_13 (fun c2 => ?_) (fun c2 => ?_)
  · have h := h.1 c2
    exact EV.vret rfl dX9_sum_81 h
  · have h := h.2 c2
    refine EV.iload_n 17 rfl 1 rfl rfl dX9_sum_16 ?_
    refine EV.bipush 19 rfl dX9_sum_17 (v := 43) (by decide) ?_
    refine EV.icmp_eq 22 34 rfl (by decide) dX9_sum_19 (fun c3 => ?_) (fun c3 => ?_)
    · have h := h.1 c3
      exact h
    · have h := h.2 c3
      refine EV.iload_n 23 rfl 1 rfl rfl dX9_sum_22 ?_
      refine EV.bipush 25 rfl dX9_sum_23 (v := 45) (by decide) ?_
      refine EV.icmp_eq 28 34 rfl (by decide) dX9_sum_25 (fun c4 => ?_) (fun c4 => ?_)
      · have h := h.1 c4
        exact h
      · have h := h.2 c4
        refine EV.iload_n 29 rfl 1 rfl rfl dX9_sum_28 ?_
        refine EV.bipush 31 rfl dX9_sum_29 (v := 38) (by decide) ?_
        refine EV.icmp_ne 34 81 rfl (by decide) dX9_sum_31 (fun c5 => ?_) (fun c5 => ?_)
        · have h := h.1 c5
          exact EV.vret rfl dX9_sum_81 h
        · have h := h.2 c5
          exact h
theorem gX9_sum_34 {Γ : Gm} {d : Nat} {σ : AH} {Q : Oc → AH → Prop} {v0 : Nat} {v1 : Int32} (h : hs σ v0 = some (7, 27) ∧ ∀ σ2 : AH, σ2 = setI σ v0 24 ((gi σ v0 24) + 1) → CV Γ d MX9_product [.ref v0] σ2 (fun σ5 => ((v1 ≠ 43 → ((v1 ≠ 45 → EV Γ MX9_sum d 70 [some (.ref v0), none] [.int 3, .ref v0] σ5 Q) ∧ (v1 = 45 → EV Γ MX9_sum d 70 [some (.ref v0), none] [.int 2, .ref v0] σ5 Q))) ∧ (v1 = 43 → EV Γ MX9_sum d 70 [some (.ref v0), none] [.int 1, .ref v0] σ5 Q))) (fun E σ5 => Q (.inr E) σ5)) : EV Γ MX9_sum d 34 [some (.ref v0), some (.int v1)] [] σ Q := by
  refine EV.aload_n 35 rfl 0 rfl rfl dX9_sum_34 ?_
  refine EV.dup 36 rfl dX9_sum_35 rfl ?_
  obtain ⟨w1, h⟩ := h
  refine EV.getI 39 rfl fl_X9_149 rfl dX9_sum_36 w1 ?_
  refine EV.iconst 40 rfl dX9_sum_39 (v := 1) (by decide) ?_
  refine EV.iadd 41 rfl dX9_sum_40 ?_
  refine EV.putI 44 rfl fw_X9_149 rfl (by decide) dX9_sum_41 w1 (EV.nm (fun σ2 e3 => ?_))
  have h := h σ2 e3
  have w4 := tr_hs (hs_setI_of e3) w1
  refine EV.aload_n 45 rfl 0 rfl rfl dX9_sum_44 ?_
  refine EV.cV rfl rfl lk_X9_155 rfl (vs := []) (st := []) rfl rfl (Nat.le_of_ble_eq_true rfl) dX9_sum_45 w4 h (fun v σ5 h => ?_)
  obtain ⟨rfl, h⟩ := h
  show EV Γ MX9_sum d 48 [some (.ref v0), some (.int v1)] [] σ5 Q
  refine EV.aload_n 49 rfl 0 rfl rfl dX9_sum_48 ?_
  refine EV.iload_n 50 rfl 1 rfl rfl dX9_sum_49 ?_
  refine EV.bipush 52 rfl dX9_sum_50 (v := 43) (by decide) ?_
  refine EV.icmp_ne 55 59 rfl (by decide) dX9_sum_52 (fun c7 => ?_) (fun c7 => ?_)
  · have h := h.1 c7
    refine EV.iload_n 60 rfl 1 rfl rfl dX9_sum_59 ?_
    refine EV.bipush 62 rfl dX9_sum_60 (v := 45) (by decide) ?_
    refine EV.icmp_ne 65 69 rfl (by decide) dX9_sum_62 (fun c8 => ?_) (fun c8 => ?_)
    · have h := h.1 c8
      refine EV.iconst 70 rfl dX9_sum_69 (v := 3) (by decide) ?_
      refine EV.mask [true, false] (L' := [some (.ref v0), none]) rfl ?_
      exact h
    · have h := h.2 c8
      refine EV.iconst 66 rfl dX9_sum_65 (v := 2) (by decide) ?_
      refine EV.goto 70 (by decide) dX9_sum_66 ?_
      refine EV.mask [true, false] (L' := [some (.ref v0), none]) rfl ?_
      exact h
  · have h := h.2 c7
    refine EV.iconst 56 rfl dX9_sum_55 (v := 1) (by decide) ?_
    refine EV.goto 70 (by decide) dX9_sum_56 ?_
    refine EV.mask [true, false] (L' := [some (.ref v0), none]) rfl ?_
    exact h
theorem gX9_sum_70 {Γ : Gm} {d : Nat} {σ : AH} {Q : Oc → AH → Prop} {v0 : Nat} {s0 : Int32} {s1 : Nat} (h : hs σ s1 = some (7, 27) ∧ CV Γ d MX9_add [.ref s1, .int s0] σ (fun σ1 => hs σ1 v0 = some (7, 27) ∧ CI Γ d MX9_look [.ref v0] σ1 (fun r5 σ4 => EV Γ MX9_sum d 9 [some (.ref v0), some (.int r5)] [] σ4 Q) (fun E σ4 => Q (.inr E) σ4)) (fun E σ1 => Q (.inr E) σ1)) : EV Γ MX9_sum d 70 [some (.ref v0), none] [.int s0, .ref s1] σ Q := by
  obtain ⟨w3, h⟩ := h
  refine EV.cV rfl rfl lk_X9_162 rfl (vs := [.int s0]) (st := []) rfl rfl (Nat.le_of_ble_eq_true rfl) dX9_sum_70 w3 h (fun v σ1 h => ?_)
  obtain ⟨rfl, h⟩ := h
  show EV Γ MX9_sum d 73 [some (.ref v0), none] [] σ1 Q
  refine EV.aload_n 74 rfl 0 rfl rfl dX9_sum_73 ?_
  obtain ⟨w6, h⟩ := h
  refine EV.cV rfl rfl lk_X9_158 rfl (vs := []) (st := []) rfl rfl (Nat.le_of_ble_eq_true rfl) dX9_sum_74 w6 h (fun v σ4 h => ?_)
  obtain ⟨r5, rfl, h⟩ := h
  show EV Γ MX9_sum d 77 [some (.ref v0), none] [.int r5] σ4 Q
  refine EV.istore_n 78 rfl 1 [some (.ref v0), some (.int r5)] rfl (by decide) rfl dX9_sum_77 ?_
  refine EV.goto 9 (by decide) dX9_sum_78 ?_
  exact h
theorem gX9_product_0 {Γ : Gm} {d : Nat} {σ : AH} {Q : Oc → AH → Prop} {v0 : Nat} (h : hs σ v0 = some (7, 27) ∧ CV Γ d MX9_factor [.ref v0] σ (fun σ1 => hs σ1 v0 = some (7, 27) ∧ CI Γ d MX9_look [.ref v0] σ1 (fun r5 σ4 => EV Γ MX9_product d 9 [some (.ref v0), some (.int r5)] [] σ4 Q) (fun E σ4 => Q (.inr E) σ4)) (fun E σ1 => Q (.inr E) σ1)) : EV Γ MX9_product d 0 [some (.ref v0), none] [] σ Q := by
  refine EV.aload_n 1 rfl 0 rfl rfl dX9_product_0 ?_
  obtain ⟨w3, h⟩ := h
  refine EV.cV rfl rfl lk_X9_165 rfl (vs := []) (st := []) rfl rfl (Nat.le_of_ble_eq_true rfl) dX9_product_1 w3 h (fun v σ1 h => ?_)
  obtain ⟨rfl, h⟩ := h
  show EV Γ MX9_product d 4 [some (.ref v0), none] [] σ1 Q
  refine EV.aload_n 5 rfl 0 rfl rfl dX9_product_4 ?_
  obtain ⟨w6, h⟩ := h
  refine EV.cV rfl rfl lk_X9_158 rfl (vs := []) (st := []) rfl rfl (Nat.le_of_ble_eq_true rfl) dX9_product_5 w6 h (fun v σ4 h => ?_)
  obtain ⟨r5, rfl, h⟩ := h
  show EV Γ MX9_product d 8 [some (.ref v0), none] [.int r5] σ4 Q
  refine EV.istore_n 9 rfl 1 [some (.ref v0), some (.int r5)] rfl (by decide) rfl dX9_product_8 ?_
  exact h
theorem eX9_product {Γ : Gm} {d : Nat} {σ : AH} {Q : Oc → AH → Prop} {v0 : Nat} (h : hs σ v0 = some (7, 27) ∧ CV Γ d MX9_factor [.ref v0] σ (fun σ1 => hs σ1 v0 = some (7, 27) ∧ CI Γ d MX9_look [.ref v0] σ1 (fun r5 σ4 => EV Γ MX9_product d 9 [some (.ref v0), some (.int r5)] [] σ4 Q) (fun E σ4 => Q (.inr E) σ4)) (fun E σ1 => Q (.inr E) σ1)) : RUN Γ d MX9_product [.ref v0] σ Q :=
  EV.enter [some (.ref v0), none] rfl (by decide +kernel) (Nat.le_of_ble_eq_true rfl) rfl (gX9_product_0 h)
theorem gX9_product_9 {Γ : Gm} {d : Nat} {σ : AH} {Q : Oc → AH → Prop} {v0 : Nat} {v1 : Int32} (h : hs σ v0 = some (7, 27) ∧ ((0 ≤ (gi σ v0 26) → Q (.inl none) σ) ∧ (¬ 0 ≤ (gi σ v0 26) → ((v1 = 42 → EV Γ MX9_product d 34 [some (.ref v0), some (.int v1)] [] σ Q) ∧ (¬ v1 = 42 → ((v1 = 47 → EV Γ MX9_product d 34 [some (.ref v0), some (.int v1)] [] σ Q) ∧ (¬ v1 = 47 → ((v1 ≠ 37 → Q (.inl none) σ) ∧ (v1 = 37 → EV Γ MX9_product d 34 [some (.ref v0), some (.int v1)] [] σ Q))))))))) : EV Γ MX9_product d 9 [some (.ref v0), some (.int v1)] [] σ Q := by
  refine EV.aload_n 10 rfl 0 rfl rfl dX9_product_9 ?_
  obtain ⟨w1, h⟩ := h
  refine EV.getI 13 rfl fl_X9_146 rfl dX9_product_10 w1 ?_
  refine EV.if_ge 16 82 rfl (by decide) dX9_product_13 (fun c2 => ?_) (fun c2 => ?_)
  · have h := h.1 c2
    exact EV.vret rfl dX9_product_82 h
  · have h := h.2 c2
    refine EV.iload_n 17 rfl 1 rfl rfl dX9_product_16 ?_
    refine EV.bipush 19 rfl dX9_product_17 (v := 42) (by decide) ?_
    refine EV.icmp_eq 22 34 rfl (by decide) dX9_product_19 (fun c3 => ?_) (fun c3 => ?_)
    · have h := h.1 c3
      exact h
    · have h := h.2 c3
      refine EV.iload_n 23 rfl 1 rfl rfl dX9_product_22 ?_
      refine EV.bipush 25 rfl dX9_product_23 (v := 47) (by decide) ?_
      refine EV.icmp_eq 28 34 rfl (by decide) dX9_product_25 (fun c4 => ?_) (fun c4 => ?_)
      · have h := h.1 c4
        exact h
      · have h := h.2 c4
        refine EV.iload_n 29 rfl 1 rfl rfl dX9_product_28 ?_
        refine EV.bipush 31 rfl dX9_product_29 (v := 37) (by decide) ?_
        refine EV.icmp_ne 34 82 rfl (by decide) dX9_product_31 (fun c5 => ?_) (fun c5 => ?_)
        · have h := h.1 c5
          exact EV.vret rfl dX9_product_82 h
        · have h := h.2 c5
          exact h
theorem gX9_product_34 {Γ : Gm} {d : Nat} {σ : AH} {Q : Oc → AH → Prop} {v0 : Nat} {v1 : Int32} (h : hs σ v0 = some (7, 27) ∧ ∀ σ2 : AH, σ2 = setI σ v0 24 ((gi σ v0 24) + 1) → CV Γ d MX9_factor [.ref v0] σ2 (fun σ5 => ((v1 ≠ 42 → ((v1 ≠ 47 → EV Γ MX9_product d 71 [some (.ref v0), none] [.int 6, .ref v0] σ5 Q) ∧ (v1 = 47 → EV Γ MX9_product d 71 [some (.ref v0), none] [.int 5, .ref v0] σ5 Q))) ∧ (v1 = 42 → EV Γ MX9_product d 71 [some (.ref v0), none] [.int 4, .ref v0] σ5 Q))) (fun E σ5 => Q (.inr E) σ5)) : EV Γ MX9_product d 34 [some (.ref v0), some (.int v1)] [] σ Q := by
  refine EV.aload_n 35 rfl 0 rfl rfl dX9_product_34 ?_
  refine EV.dup 36 rfl dX9_product_35 rfl ?_
  obtain ⟨w1, h⟩ := h
  refine EV.getI 39 rfl fl_X9_149 rfl dX9_product_36 w1 ?_
  refine EV.iconst 40 rfl dX9_product_39 (v := 1) (by decide) ?_
  refine EV.iadd 41 rfl dX9_product_40 ?_
  refine EV.putI 44 rfl fw_X9_149 rfl (by decide) dX9_product_41 w1 (EV.nm (fun σ2 e3 => ?_))
  have h := h σ2 e3
  have w4 := tr_hs (hs_setI_of e3) w1
  refine EV.aload_n 45 rfl 0 rfl rfl dX9_product_44 ?_
  refine EV.cV rfl rfl lk_X9_165 rfl (vs := []) (st := []) rfl rfl (Nat.le_of_ble_eq_true rfl) dX9_product_45 w4 h (fun v σ5 h => ?_)
  obtain ⟨rfl, h⟩ := h
  show EV Γ MX9_product d 48 [some (.ref v0), some (.int v1)] [] σ5 Q
  refine EV.aload_n 49 rfl 0 rfl rfl dX9_product_48 ?_
  refine EV.iload_n 50 rfl 1 rfl rfl dX9_product_49 ?_
  refine EV.bipush 52 rfl dX9_product_50 (v := 42) (by decide) ?_
  refine EV.icmp_ne 55 59 rfl (by decide) dX9_product_52 (fun c7 => ?_) (fun c7 => ?_)
  · have h := h.1 c7
    refine EV.iload_n 60 rfl 1 rfl rfl dX9_product_59 ?_
    refine EV.bipush 62 rfl dX9_product_60 (v := 47) (by decide) ?_
    refine EV.icmp_ne 65 69 rfl (by decide) dX9_product_62 (fun c8 => ?_) (fun c8 => ?_)
    · have h := h.1 c8
      refine EV.bipush 71 rfl dX9_product_69 (v := 6) (by decide) ?_
      refine EV.mask [true, false] (L' := [some (.ref v0), none]) rfl ?_
      exact h
    · have h := h.2 c8
      refine EV.iconst 66 rfl dX9_product_65 (v := 5) (by decide) ?_
      refine EV.goto 71 (by decide) dX9_product_66 ?_
      refine EV.mask [true, false] (L' := [some (.ref v0), none]) rfl ?_
      exact h
  · have h := h.2 c7
    refine EV.iconst 56 rfl dX9_product_55 (v := 4) (by decide) ?_
    refine EV.goto 71 (by decide) dX9_product_56 ?_
    refine EV.mask [true, false] (L' := [some (.ref v0), none]) rfl ?_
    exact h
theorem gX9_product_71 {Γ : Gm} {d : Nat} {σ : AH} {Q : Oc → AH → Prop} {v0 : Nat} {s0 : Int32} {s1 : Nat} (h : hs σ s1 = some (7, 27) ∧ CV Γ d MX9_add [.ref s1, .int s0] σ (fun σ1 => hs σ1 v0 = some (7, 27) ∧ CI Γ d MX9_look [.ref v0] σ1 (fun r5 σ4 => EV Γ MX9_product d 9 [some (.ref v0), some (.int r5)] [] σ4 Q) (fun E σ4 => Q (.inr E) σ4)) (fun E σ1 => Q (.inr E) σ1)) : EV Γ MX9_product d 71 [some (.ref v0), none] [.int s0, .ref s1] σ Q := by
  obtain ⟨w3, h⟩ := h
  refine EV.cV rfl rfl lk_X9_162 rfl (vs := [.int s0]) (st := []) rfl rfl (Nat.le_of_ble_eq_true rfl) dX9_product_71 w3 h (fun v σ1 h => ?_)
  obtain ⟨rfl, h⟩ := h
  show EV Γ MX9_product d 74 [some (.ref v0), none] [] σ1 Q
  refine EV.aload_n 75 rfl 0 rfl rfl dX9_product_74 ?_
  obtain ⟨w6, h⟩ := h
  refine EV.cV rfl rfl lk_X9_158 rfl (vs := []) (st := []) rfl rfl (Nat.le_of_ble_eq_true rfl) dX9_product_75 w6 h (fun v σ4 h => ?_)
  obtain ⟨r5, rfl, h⟩ := h
  show EV Γ MX9_product d 78 [some (.ref v0), none] [.int r5] σ4 Q
  refine EV.istore_n 79 rfl 1 [some (.ref v0), some (.int r5)] rfl (by decide) rfl dX9_product_78 ?_
  refine EV.goto 9 (by decide) dX9_product_79 ?_
  exact h
theorem gX9_isLetter_0 {Γ : Gm} {d : Nat} {σ : AH} {Q : Oc → AH → Prop} {v0 : Int32} (h : ((v0 < 97 → Q (.inl (some (.int 0))) σ) ∧ (¬ v0 < 97 → ((122 < v0 → Q (.inl (some (.int 0))) σ) ∧ (¬ 122 < v0 → Q (.inl (some (.int 1))) σ))))) : EV Γ MX9_isLetter d 0 [some (.int v0)] [] σ Q := by
  refine EV.iload_n 1 rfl 0 rfl rfl dX9_isLetter_0 ?_
  refine EV.bipush 3 rfl dX9_isLetter_1 (v := 97) (by decide) ?_
  refine EV.icmp_lt 6 16 rfl (by decide) dX9_isLetter_3 (fun c1 => ?_) (fun c1 => ?_)
  · have h := h.1 c1
    refine EV.iconst 17 rfl dX9_isLetter_16 (v := 0) (by decide) ?_
    exact EV.zret rfl rfl dX9_isLetter_17 h
  · have h := h.2 c1
    refine EV.iload_n 7 rfl 0 rfl rfl dX9_isLetter_6 ?_
    refine EV.bipush 9 rfl dX9_isLetter_7 (v := 122) (by decide) ?_
    refine EV.icmp_gt 12 16 rfl (by decide) dX9_isLetter_9 (fun c2 => ?_) (fun c2 => ?_)
    · have h := h.1 c2
      refine EV.iconst 17 rfl dX9_isLetter_16 (v := 0) (by decide) ?_
      exact EV.zret rfl rfl dX9_isLetter_17 h
    · have h := h.2 c2
      refine EV.iconst 13 rfl dX9_isLetter_12 (v := 1) (by decide) ?_
      refine EV.goto 17 (by decide) dX9_isLetter_13 ?_
      exact EV.zret rfl rfl dX9_isLetter_17 h
theorem eX9_isLetter {Γ : Gm} {d : Nat} {σ : AH} {Q : Oc → AH → Prop} {v0 : Int32} (h : ((v0 < 97 → Q (.inl (some (.int 0))) σ) ∧ (¬ v0 < 97 → ((122 < v0 → Q (.inl (some (.int 0))) σ) ∧ (¬ 122 < v0 → Q (.inl (some (.int 1))) σ))))) : RUN Γ d MX9_isLetter [.int v0] σ Q :=
  EV.enter [some (.int v0)] rfl (by decide +kernel) (Nat.le_of_ble_eq_true rfl) rfl (gX9_isLetter_0 h)
theorem gX9_isDigit_0 {Γ : Gm} {d : Nat} {σ : AH} {Q : Oc → AH → Prop} {v0 : Int32} (h : ((v0 < 48 → Q (.inl (some (.int 0))) σ) ∧ (¬ v0 < 48 → ((57 < v0 → Q (.inl (some (.int 0))) σ) ∧ (¬ 57 < v0 → Q (.inl (some (.int 1))) σ))))) : EV Γ MX9_isDigit d 0 [some (.int v0)] [] σ Q := by
  refine EV.iload_n 1 rfl 0 rfl rfl dX9_isDigit_0 ?_
  refine EV.bipush 3 rfl dX9_isDigit_1 (v := 48) (by decide) ?_
  refine EV.icmp_lt 6 16 rfl (by decide) dX9_isDigit_3 (fun c1 => ?_) (fun c1 => ?_)
  · have h := h.1 c1
    refine EV.iconst 17 rfl dX9_isDigit_16 (v := 0) (by decide) ?_
    exact EV.zret rfl rfl dX9_isDigit_17 h
  · have h := h.2 c1
    refine EV.iload_n 7 rfl 0 rfl rfl dX9_isDigit_6 ?_
    refine EV.bipush 9 rfl dX9_isDigit_7 (v := 57) (by decide) ?_
    refine EV.icmp_gt 12 16 rfl (by decide) dX9_isDigit_9 (fun c2 => ?_) (fun c2 => ?_)
    · have h := h.1 c2
      refine EV.iconst 17 rfl dX9_isDigit_16 (v := 0) (by decide) ?_
      exact EV.zret rfl rfl dX9_isDigit_17 h
    · have h := h.2 c2
      refine EV.iconst 13 rfl dX9_isDigit_12 (v := 1) (by decide) ?_
      refine EV.goto 17 (by decide) dX9_isDigit_13 ?_
      exact EV.zret rfl rfl dX9_isDigit_17 h
theorem eX9_isDigit {Γ : Gm} {d : Nat} {σ : AH} {Q : Oc → AH → Prop} {v0 : Int32} (h : ((v0 < 48 → Q (.inl (some (.int 0))) σ) ∧ (¬ v0 < 48 → ((57 < v0 → Q (.inl (some (.int 0))) σ) ∧ (¬ 57 < v0 → Q (.inl (some (.int 1))) σ))))) : RUN Γ d MX9_isDigit [.int v0] σ Q :=
  EV.enter [some (.int v0)] rfl (by decide +kernel) (Nat.le_of_ble_eq_true rfl) rfl (gX9_isDigit_0 h)
theorem gX9_factor_0 {Γ : Gm} {d : Nat} {σ : AH} {Q : Oc → AH → Prop} {v0 : Nat} (h : hs σ v0 = some (7, 27) ∧ (((gi σ v0 26) < 0 → CI Γ d MX9_look [.ref v0] σ (fun r4 σ3 => hs σ3 v0 = some (7, 27) ∧ ((r4 ≠ 40 → CI Γ d MX9_isLetter [.int r4] σ3 (fun r8 σ7 => ((r8 = 0 → ((r4 ≠ 35 → CI Γ d MX9_isDigit [.int r4] σ7 (fun r12 σ11 => ((r12 = 0 → hs σ11 v0 = some (7, 27) ∧ CV Γ d MX9_wrong [.ref v0, .int (gi σ11 v0 24)] σ11 (fun σ15 => Q (.inl none) σ15) (fun E σ15 => Q (.inr E) σ15)) ∧ (¬ r12 = 0 → hs σ11 v0 = some (7, 27) ∧ CI Γ d MX9_digits [.ref v0] σ11 (fun r18 σ17 => ((r18 ≠ 1 → EV Γ MX9_factor d 91 [some (.ref v0), some (.int r4), some (.int (gi σ3 v0 24)), none] [] σ17 Q) ∧ (r18 = 1 → ((r4 ≤ 49 → EV Γ MX9_factor d 96 [some (.ref v0), some (.int r4), none, none] [] σ17 Q) ∧ (¬ r4 ≤ 49 → EV Γ MX9_factor d 91 [some (.ref v0), some (.int r4), some (.int (gi σ3 v0 24)), none] [] σ17 Q))))) (fun E σ17 => Q (.inr E) σ17)))) (fun _ _ => False)) ∧ (r4 = 35 → hs σ7 v0 = some (7, 27) ∧ ∀ σ23 : AH, σ23 = setI σ7 v0 24 ((gi σ7 v0 24) + 1) → CV Γ d MX9_reference [.ref v0] σ23 (fun σ26 => Q (.inl none) σ26) (fun E σ26 => Q (.inr E) σ26)))) ∧ (¬ r8 = 0 → hs σ7 v0 = some (7, 27) ∧ CV Γ d MX9_word [.ref v0] σ7 (fun σ28 => Q (.inl none) σ28) (fun E σ28 => Q (.inr E) σ28)))) (fun _ _ => False)) ∧ (r4 = 40 → CV Γ d MX9_group [.ref v0] σ3 (fun σ31 => Q (.inl none) σ31) (fun E σ31 => Q (.inr E) σ31)))) (fun E σ3 => Q (.inr E) σ3)) ∧ (¬ (gi σ v0 26) < 0 → Q (.inl none) σ))) : EV Γ MX9_factor d 0 [some (.ref v0), none, none, none] [] σ Q := by
  refine EV.aload_n 1 rfl 0 rfl rfl dX9_factor_0 ?_
  obtain ⟨w1, h⟩ := h
  refine EV.getI 4 rfl fl_X9_146 rfl dX9_factor_1 w1 ?_
  refine EV.if_lt 7 8 rfl (by decide) dX9_factor_4 (fun c2 => ?_) (fun c2 => ?_)
  · have h := h.1 c2
    refine EV.aload_n 9 rfl 0 rfl rfl dX9_factor_8 ?_
    refine EV.cV rfl rfl lk_X9_158 rfl (vs := []) (st := []) rfl rfl (Nat.le_of_ble_eq_true rfl) dX9_factor_9 w1 h (fun v σ3 h => ?_)
    obtain ⟨r4, rfl, h⟩ := h
    show EV Γ MX9_factor d 12 [some (.ref v0), none, none, none] [.int r4] σ3 Q
    refine EV.istore_n 13 rfl 1 [some (.ref v0), some (.int r4), none, none] rfl (by decide) rfl dX9_factor_12 ?_
    refine EV.aload_n 14 rfl 0 rfl rfl dX9_factor_13 ?_
    obtain ⟨w5, h⟩ := h
    refine EV.getI 17 rfl fl_X9_149 rfl dX9_factor_14 w5 ?_
    refine EV.istore_n 18 rfl 2 [some (.ref v0), some (.int r4), some (.int (gi σ3 v0 24)), none] rfl (by decide) rfl dX9_factor_17 ?_
    refine EV.iload_n 19 rfl 1 rfl rfl dX9_factor_18 ?_
    refine EV.bipush 21 rfl dX9_factor_19 (v := 40) (by decide) ?_
    refine EV.icmp_ne 24 31 rfl (by decide) dX9_factor_21 (fun c6 => ?_) (fun c6 => ?_)
    · have h := h.1 c6
      refine EV.iload_n 32 rfl 1 rfl rfl dX9_factor_31 ?_
      refine EV.cS rfl lk_X9_171 rfl (vs := [.int r4]) (st := []) rfl rfl (Nat.le_of_ble_eq_true rfl) dX9_factor_32 h (fun v σ7 h => ?_)
      obtain ⟨r8, rfl, h⟩ := h
      show EV Γ MX9_factor d 35 [some (.ref v0), some (.int r4), some (.int (gi σ3 v0 24)), none] [.int r8] σ7 Q
      refine EV.if_eq 38 45 rfl (by decide) dX9_factor_35 (fun c9 => ?_) (fun c9 => ?_)
      · have h := h.1 c9
        refine EV.iload_n 46 rfl 1 rfl rfl dX9_factor_45 ?_
        refine EV.bipush 48 rfl dX9_factor_46 (v := 35) (by decide) ?_
        refine EV.icmp_ne 51 68 rfl (by decide) dX9_factor_48 (fun c10 => ?_) (fun c10 => ?_)
        · have h := h.1 c10
          refine EV.iload_n 69 rfl 1 rfl rfl dX9_factor_68 ?_
          refine EV.cS rfl lk_X9_181 rfl (vs := [.int r4]) (st := []) rfl rfl (Nat.le_of_ble_eq_true rfl) dX9_factor_69 h (fun v σ11 h => ?_)
          obtain ⟨r12, rfl, h⟩ := h
          show EV Γ MX9_factor d 72 [some (.ref v0), some (.int r4), some (.int (gi σ3 v0 24)), none] [.int r12] σ11 Q
          refine EV.if_eq 75 116 rfl (by decide) dX9_factor_72 (fun c13 => ?_) (fun c13 => ?_)
          · have h := h.1 c13
            refine EV.aload_n 117 rfl 0 rfl rfl dX9_factor_116 ?_
            refine EV.aload_n 118 rfl 0 rfl rfl dX9_factor_117 ?_
            obtain ⟨w14, h⟩ := h
            refine EV.getI 121 rfl fl_X9_149 rfl dX9_factor_118 w14 ?_
            refine EV.cV rfl rfl lk_X9_187 rfl (vs := [.int (gi σ11 v0 24)]) (st := []) rfl rfl (Nat.le_of_ble_eq_true rfl) dX9_factor_121 w14 h (fun v σ15 h => ?_)
            obtain ⟨rfl, h⟩ := h
            show EV Γ MX9_factor d 124 [some (.ref v0), some (.int r4), some (.int (gi σ3 v0 24)), none] [] σ15 Q
            exact EV.vret rfl dX9_factor_124 h
          · have h := h.2 c13
            refine EV.aload_n 76 rfl 0 rfl rfl dX9_factor_75 ?_
            obtain ⟨w19, h⟩ := h
            refine EV.cV rfl rfl lk_X9_184 rfl (vs := []) (st := []) rfl rfl (Nat.le_of_ble_eq_true rfl) dX9_factor_76 w19 h (fun v σ17 h => ?_)
            obtain ⟨r18, rfl, h⟩ := h
            show EV Γ MX9_factor d 79 [some (.ref v0), some (.int r4), some (.int (gi σ3 v0 24)), none] [.int r18] σ17 Q
            refine EV.istore_n 80 rfl 3 [some (.ref v0), some (.int r4), some (.int (gi σ3 v0 24)), some (.int r18)] rfl (by decide) rfl dX9_factor_79 ?_
            refine EV.iload_n 81 rfl 3 rfl rfl dX9_factor_80 ?_
            refine EV.iconst 82 rfl dX9_factor_81 (v := 1) (by decide) ?_
            refine EV.icmp_ne 85 91 rfl (by decide) dX9_factor_82 (fun c20 => ?_) (fun c20 => ?_)
            · have h := h.1 c20
              refine EV.mask [true, true, true, false] (L' := [some (.ref v0), some (.int r4), some (.int (gi σ3 v0 24)), none]) rfl ?_
              exact h
            · have h := h.2 c20
              refine EV.iload_n 86 rfl 1 rfl rfl dX9_factor_85 ?_
              refine EV.bipush 88 rfl dX9_factor_86 (v := 49) (by decide) ?_
              refine EV.icmp_le 91 96 rfl (by decide) dX9_factor_88 (fun c21 => ?_) (fun c21 => ?_)
              · have h := h.1 c21
                refine EV.mask [true, true, false, false] (L' := [some (.ref v0), some (.int r4), none, none]) rfl ?_
                exact h
              · have h := h.2 c21
                refine EV.mask [true, true, true, false] (L' := [some (.ref v0), some (.int r4), some (.int (gi σ3 v0 24)), none]) rfl ?_
                exact h
        · have h := h.2 c10
          refine EV.aload_n 52 rfl 0 rfl rfl dX9_factor_51 ?_
          refine EV.dup 53 rfl dX9_factor_52 rfl ?_
          obtain ⟨w22, h⟩ := h
          refine EV.getI 56 rfl fl_X9_149 rfl dX9_factor_53 w22 ?_
          refine EV.iconst 57 rfl dX9_factor_56 (v := 1) (by decide) ?_
          refine EV.iadd 58 rfl dX9_factor_57 ?_
          refine EV.putI 61 rfl fw_X9_149 rfl (by decide) dX9_factor_58 w22 (EV.nm (fun σ23 e24 => ?_))
          have h := h σ23 e24
          have w25 := tr_hs (hs_setI_of e24) w22
          refine EV.aload_n 62 rfl 0 rfl rfl dX9_factor_61 ?_
          refine EV.cV rfl rfl lk_X9_178 rfl (vs := []) (st := []) rfl rfl (Nat.le_of_ble_eq_true rfl) dX9_factor_62 w25 h (fun v σ26 h => ?_)
          obtain ⟨rfl, h⟩ := h
          show EV Γ MX9_factor d 65 [some (.ref v0), some (.int r4), some (.int (gi σ3 v0 24)), none] [] σ26 Q
          refine EV.goto 124 (by decide) dX9_factor_65 ?_
          exact EV.vret rfl dX9_factor_124 h
      · have h := h.2 c9
        refine EV.aload_n 39 rfl 0 rfl rfl dX9_factor_38 ?_
        obtain ⟨w30, h⟩ := h
        refine EV.cV rfl rfl lk_X9_175 rfl (vs := []) (st := []) rfl rfl (Nat.le_of_ble_eq_true rfl) dX9_factor_39 w30 h (fun v σ28 h => ?_)
        obtain ⟨rfl, h⟩ := h
        show EV Γ MX9_factor d 42 [some (.ref v0), some (.int r4), some (.int (gi σ3 v0 24)), none] [] σ28 Q
        refine EV.goto 124 (by decide) dX9_factor_42 ?_
        exact EV.vret rfl dX9_factor_124 h
    · have h := h.2 c6
      refine EV.aload_n 25 rfl 0 rfl rfl dX9_factor_24 ?_
      refine EV.cV rfl rfl lk_X9_168 rfl (vs := []) (st := []) rfl rfl (Nat.le_of_ble_eq_true rfl) dX9_factor_25 w5 h (fun v σ31 h => ?_)
      obtain ⟨rfl, h⟩ := h
      show EV Γ MX9_factor d 28 [some (.ref v0), some (.int r4), some (.int (gi σ3 v0 24)), none] [] σ31 Q
      refine EV.goto 124 (by decide) dX9_factor_28 ?_
      exact EV.vret rfl dX9_factor_124 h
  · have h := h.2 c2
    exact EV.vret rfl dX9_factor_7 h
theorem eX9_factor {Γ : Gm} {d : Nat} {σ : AH} {Q : Oc → AH → Prop} {v0 : Nat} (h : hs σ v0 = some (7, 27) ∧ (((gi σ v0 26) < 0 → CI Γ d MX9_look [.ref v0] σ (fun r4 σ3 => hs σ3 v0 = some (7, 27) ∧ ((r4 ≠ 40 → CI Γ d MX9_isLetter [.int r4] σ3 (fun r8 σ7 => ((r8 = 0 → ((r4 ≠ 35 → CI Γ d MX9_isDigit [.int r4] σ7 (fun r12 σ11 => ((r12 = 0 → hs σ11 v0 = some (7, 27) ∧ CV Γ d MX9_wrong [.ref v0, .int (gi σ11 v0 24)] σ11 (fun σ15 => Q (.inl none) σ15) (fun E σ15 => Q (.inr E) σ15)) ∧ (¬ r12 = 0 → hs σ11 v0 = some (7, 27) ∧ CI Γ d MX9_digits [.ref v0] σ11 (fun r18 σ17 => ((r18 ≠ 1 → EV Γ MX9_factor d 91 [some (.ref v0), some (.int r4), some (.int (gi σ3 v0 24)), none] [] σ17 Q) ∧ (r18 = 1 → ((r4 ≤ 49 → EV Γ MX9_factor d 96 [some (.ref v0), some (.int r4), none, none] [] σ17 Q) ∧ (¬ r4 ≤ 49 → EV Γ MX9_factor d 91 [some (.ref v0), some (.int r4), some (.int (gi σ3 v0 24)), none] [] σ17 Q))))) (fun E σ17 => Q (.inr E) σ17)))) (fun _ _ => False)) ∧ (r4 = 35 → hs σ7 v0 = some (7, 27) ∧ ∀ σ23 : AH, σ23 = setI σ7 v0 24 ((gi σ7 v0 24) + 1) → CV Γ d MX9_reference [.ref v0] σ23 (fun σ26 => Q (.inl none) σ26) (fun E σ26 => Q (.inr E) σ26)))) ∧ (¬ r8 = 0 → hs σ7 v0 = some (7, 27) ∧ CV Γ d MX9_word [.ref v0] σ7 (fun σ28 => Q (.inl none) σ28) (fun E σ28 => Q (.inr E) σ28)))) (fun _ _ => False)) ∧ (r4 = 40 → CV Γ d MX9_group [.ref v0] σ3 (fun σ31 => Q (.inl none) σ31) (fun E σ31 => Q (.inr E) σ31)))) (fun E σ3 => Q (.inr E) σ3)) ∧ (¬ (gi σ v0 26) < 0 → Q (.inl none) σ))) : RUN Γ d MX9_factor [.ref v0] σ Q :=
  EV.enter [some (.ref v0), none, none, none] rfl (by decide +kernel) (Nat.le_of_ble_eq_true rfl) rfl (gX9_factor_0 h)
theorem gX9_factor_91 {Γ : Gm} {d : Nat} {σ : AH} {Q : Oc → AH → Prop} {v0 : Nat} {v1 : Int32} {v2 : Int32} (h : hs σ v0 = some (7, 27) ∧ CV Γ d MX9_wrong [.ref v0, .int v2] σ (fun σ1 => EV Γ MX9_factor d 96 [some (.ref v0), some (.int v1), none, none] [] σ1 Q) (fun E σ1 => Q (.inr E) σ1)) : EV Γ MX9_factor d 91 [some (.ref v0), some (.int v1), some (.int v2), none] [] σ Q := by
  refine EV.aload_n 92 rfl 0 rfl rfl dX9_factor_91 ?_
  refine EV.iload_n 93 rfl 2 rfl rfl dX9_factor_92 ?_
  obtain ⟨w3, h⟩ := h
  refine EV.cV rfl rfl lk_X9_187 rfl (vs := [.int v2]) (st := []) rfl rfl (Nat.le_of_ble_eq_true rfl) dX9_factor_93 w3 h (fun v σ1 h => ?_)
  obtain ⟨rfl, h⟩ := h
  show EV Γ MX9_factor d 96 [some (.ref v0), some (.int v1), some (.int v2), none] [] σ1 Q
  refine EV.mask [true, true, false, false] (L' := [some (.ref v0), some (.int v1), none, none]) rfl ?_
  exact h
theorem gX9_factor_96 {Γ : Gm} {d : Nat} {σ : AH} {Q : Oc → AH → Prop} {v0 : Nat} {v1 : Int32} (h : ((v1 ≠ 48 → EV Γ MX9_factor d 110 [none, none, none, none] [.int 100, .ref v0] σ Q) ∧ (v1 = 48 → EV Γ MX9_factor d 110 [none, none, none, none] [.int 99, .ref v0] σ Q))) : EV Γ MX9_factor d 96 [some (.ref v0), some (.int v1), none, none] [] σ Q := by
  refine EV.aload_n 97 rfl 0 rfl rfl dX9_factor_96 ?_
  refine EV.iload_n 98 rfl 1 rfl rfl dX9_factor_97 ?_
  refine EV.bipush 100 rfl dX9_factor_98 (v := 48) (by decide) ?_
  refine EV.icmp_ne 103 108 rfl (by decide) dX9_factor_100 (fun c1 => ?_) (fun c1 => ?_)
  · have h := h.1 c1
    refine EV.bipush 110 rfl dX9_factor_108 (v := 100) (by decide) ?_
    refine EV.mask [false, false, false, false] (L' := [none, none, none, none]) rfl ?_
    exact h
  · have h := h.2 c1
    refine EV.bipush 105 rfl dX9_factor_103 (v := 99) (by decide) ?_
    refine EV.goto 110 (by decide) dX9_factor_105 ?_
    refine EV.mask [false, false, false, false] (L' := [none, none, none, none]) rfl ?_
    exact h
theorem gX9_factor_110 {Γ : Gm} {d : Nat} {σ : AH} {Q : Oc → AH → Prop} {s0 : Int32} {s1 : Nat} (h : hs σ s1 = some (7, 27) ∧ CV Γ d MX9_add [.ref s1, .int s0] σ (fun σ1 => Q (.inl none) σ1) (fun E σ1 => Q (.inr E) σ1)) : EV Γ MX9_factor d 110 [none, none, none, none] [.int s0, .ref s1] σ Q := by
  obtain ⟨w3, h⟩ := h
  refine EV.cV rfl rfl lk_X9_162 rfl (vs := [.int s0]) (st := []) rfl rfl (Nat.le_of_ble_eq_true rfl) dX9_factor_110 w3 h (fun v σ1 h => ?_)
  obtain ⟨rfl, h⟩ := h
  show EV Γ MX9_factor d 113 [none, none, none, none] [] σ1 Q
  refine EV.goto 124 (by decide) dX9_factor_113 ?_
  exact EV.vret rfl dX9_factor_124 h
theorem gX9_digits_0 {Γ : Gm} {d : Nat} {σ : AH} {Q : Oc → AH → Prop} {v0 : Nat} (h : hs σ v0 = some (7, 27) ∧ EV Γ MX9_digits d 5 [some (.ref v0), some (.int (gi σ v0 24))] [] σ Q) : EV Γ MX9_digits d 0 [some (.ref v0), none] [] σ Q := by
  refine EV.aload_n 1 rfl 0 rfl rfl dX9_digits_0 ?_
  obtain ⟨w1, h⟩ := h
  refine EV.getI 4 rfl fl_X9_149 rfl dX9_digits_1 w1 ?_
  refine EV.istore_n 5 rfl 1 [some (.ref v0), some (.int (gi σ v0 24))] rfl (by decide) rfl dX9_digits_4 ?_
  exact h
theorem eX9_digits {Γ : Gm} {d : Nat} {σ : AH} {Q : Oc → AH → Prop} {v0 : Nat} (h : hs σ v0 = some (7, 27) ∧ EV Γ MX9_digits d 5 [some (.ref v0), some (.int (gi σ v0 24))] [] σ Q) : RUN Γ d MX9_digits [.ref v0] σ Q :=
  EV.enter [some (.ref v0), none] rfl (by decide +kernel) (Nat.le_of_ble_eq_true rfl) rfl (gX9_digits_0 h)
theorem gX9_digits_5 {Γ : Gm} {d : Nat} {σ : AH} {Q : Oc → AH → Prop} {v0 : Nat} {v1 : Int32} (h : hs σ v0 = some (7, 27) ∧ (((gi σ v0 2) ≤ (gi σ v0 24) → Q (.inl (some (.int ((gi σ v0 24) - v1)))) σ) ∧ (¬ (gi σ v0 2) ≤ (gi σ v0 24) → ∃ t3 : Nat, gr σ v0 1 = some t3 ∧ ∃ n6 : Nat, hs σ t3 = some (20, n6) ∧ ∃ j7 : Nat, IX (gi σ v0 24) n6 j7 ∧ CI Γ d MX9_isDigit [.int (gi σ t3 j7)] σ (fun r10 σ9 => ((r10 = 0 → hs σ9 v0 = some (7, 27) ∧ Q (.inl (some (.int ((gi σ9 v0 24) - v1)))) σ9) ∧ (¬ r10 = 0 → hs σ9 v0 = some (7, 27) ∧ ∀ σ14 : AH, σ14 = setI σ9 v0 24 ((gi σ9 v0 24) + 1) → EV Γ MX9_digits d 5 [some (.ref v0), some (.int v1)] [] σ14 Q))) (fun _ _ => False)))) : EV Γ MX9_digits d 5 [some (.ref v0), some (.int v1)] [] σ Q := by
  refine EV.aload_n 6 rfl 0 rfl rfl dX9_digits_5 ?_
  obtain ⟨w1, h⟩ := h
  refine EV.getI 9 rfl fl_X9_149 rfl dX9_digits_6 w1 ?_
  refine EV.aload_n 10 rfl 0 rfl rfl dX9_digits_9 ?_
  refine EV.getI 13 rfl fl_X9_136 rfl dX9_digits_10 w1 ?_
  refine EV.icmp_ge 16 44 rfl (by decide) dX9_digits_13 (fun c2 => ?_) (fun c2 => ?_)
  · have h := h.1 c2
    refine EV.aload_n 45 rfl 0 rfl rfl dX9_digits_44 ?_
    refine EV.getI 48 rfl fl_X9_149 rfl dX9_digits_45 w1 ?_
    refine EV.iload_n 49 rfl 1 rfl rfl dX9_digits_48 ?_
    refine EV.isub 50 rfl dX9_digits_49 ?_
    exact EV.iret rfl dX9_digits_50 h
  · have h := h.2 c2
    refine EV.aload_n 17 rfl 0 rfl rfl dX9_digits_16 ?_
    obtain ⟨t3, g4, h⟩ := h
    refine EV.getR 20 rfl fl_X9_9 rfl dX9_digits_17 w1 g4 ?_
    refine EV.aload_n 21 rfl 0 rfl rfl dX9_digits_20 ?_
    refine EV.getI 24 rfl fl_X9_149 rfl dX9_digits_21 w1 ?_
    obtain ⟨n6, w5, h⟩ := h
    obtain ⟨j7, x8, h⟩ := h
    refine EV.bald 25 rfl dX9_digits_24 w5 x8 ?_
    refine EV.cS rfl lk_X9_181 rfl (vs := [.int (gi σ t3 j7)]) (st := []) rfl rfl (Nat.le_of_ble_eq_true rfl) dX9_digits_25 h (fun v σ9 h => ?_)
    obtain ⟨r10, rfl, h⟩ := h
    show EV Γ MX9_digits d 28 [some (.ref v0), some (.int v1)] [.int r10] σ9 Q
    refine EV.if_eq 31 44 rfl (by decide) dX9_digits_28 (fun c11 => ?_) (fun c11 => ?_)
    · have h := h.1 c11
      refine EV.aload_n 45 rfl 0 rfl rfl dX9_digits_44 ?_
      obtain ⟨w12, h⟩ := h
      refine EV.getI 48 rfl fl_X9_149 rfl dX9_digits_45 w12 ?_
      refine EV.iload_n 49 rfl 1 rfl rfl dX9_digits_48 ?_
      refine EV.isub 50 rfl dX9_digits_49 ?_
      exact EV.iret rfl dX9_digits_50 h
    · have h := h.2 c11
      refine EV.aload_n 32 rfl 0 rfl rfl dX9_digits_31 ?_
      refine EV.dup 33 rfl dX9_digits_32 rfl ?_
      obtain ⟨w13, h⟩ := h
      refine EV.getI 36 rfl fl_X9_149 rfl dX9_digits_33 w13 ?_
      refine EV.iconst 37 rfl dX9_digits_36 (v := 1) (by decide) ?_
      refine EV.iadd 38 rfl dX9_digits_37 ?_
      refine EV.putI 41 rfl fw_X9_149 rfl (by decide) dX9_digits_38 w13 (EV.nm (fun σ14 e15 => ?_))
      have h := h σ14 e15
      have w16 := tr_hs (hs_setI_of e15) w13
      refine EV.goto 5 (by decide) dX9_digits_41 ?_
      exact h
theorem gX9_reference_0 {Γ : Gm} {d : Nat} {σ : AH} {Q : Oc → AH → Prop} {v0 : Nat} (h : hs σ v0 = some (7, 27) ∧ CI Γ d MX9_look [.ref v0] σ (fun r2 σ1 => hs σ1 v0 = some (7, 27) ∧ CI Γ d MX9_digits [.ref v0] σ1 (fun r6 σ5 => ((r6 = 0 → EV Γ MX9_reference d 25 [some (.ref v0), none, some (.int (gi σ1 v0 24)), none, none, none] [] σ5 Q) ∧ (¬ r6 = 0 → ((r6 ≤ 9 → EV Γ MX9_reference d 37 [some (.ref v0), some (.int r2), some (.int (gi σ1 v0 24)), none, some (.int 0), some (.int (gi σ1 v0 24))] [] σ5 Q) ∧ (¬ r6 ≤ 9 → EV Γ MX9_reference d 25 [some (.ref v0), none, some (.int (gi σ1 v0 24)), none, none, none] [] σ5 Q))))) (fun E σ5 => Q (.inr E) σ5)) (fun E σ1 => Q (.inr E) σ1)) : EV Γ MX9_reference d 0 [some (.ref v0), none, none, none, none, none] [] σ Q := by
  refine EV.aload_n 1 rfl 0 rfl rfl dX9_reference_0 ?_
  obtain ⟨w3, h⟩ := h
  refine EV.cV rfl rfl lk_X9_158 rfl (vs := []) (st := []) rfl rfl (Nat.le_of_ble_eq_true rfl) dX9_reference_1 w3 h (fun v σ1 h => ?_)
  obtain ⟨r2, rfl, h⟩ := h
  show EV Γ MX9_reference d 4 [some (.ref v0), none, none, none, none, none] [.int r2] σ1 Q
  refine EV.istore_n 5 rfl 1 [some (.ref v0), some (.int r2), none, none, none, none] rfl (by decide) rfl dX9_reference_4 ?_
  refine EV.aload_n 6 rfl 0 rfl rfl dX9_reference_5 ?_
  obtain ⟨w4, h⟩ := h
  refine EV.getI 9 rfl fl_X9_149 rfl dX9_reference_6 w4 ?_
  refine EV.istore_n 10 rfl 2 [some (.ref v0), some (.int r2), some (.int (gi σ1 v0 24)), none, none, none] rfl (by decide) rfl dX9_reference_9 ?_
  refine EV.aload_n 11 rfl 0 rfl rfl dX9_reference_10 ?_
  refine EV.cV rfl rfl lk_X9_184 rfl (vs := []) (st := []) rfl rfl (Nat.le_of_ble_eq_true rfl) dX9_reference_11 w4 h (fun v σ5 h => ?_)
  obtain ⟨r6, rfl, h⟩ := h
  show EV Γ MX9_reference d 14 [some (.ref v0), some (.int r2), some (.int (gi σ1 v0 24)), none, none, none] [.int r6] σ5 Q
  refine EV.istore_n 15 rfl 3 [some (.ref v0), some (.int r2), some (.int (gi σ1 v0 24)), some (.int r6), none, none] rfl (by decide) rfl dX9_reference_14 ?_
  refine EV.iload_n 16 rfl 3 rfl rfl dX9_reference_15 ?_
  refine EV.if_eq 19 25 rfl (by decide) dX9_reference_16 (fun c7 => ?_) (fun c7 => ?_)
  · have h := h.1 c7
    refine EV.mask [true, false, true, false, false, false] (L' := [some (.ref v0), none, some (.int (gi σ1 v0 24)), none, none, none]) rfl ?_
    exact h
  · have h := h.2 c7
    refine EV.iload_n 20 rfl 3 rfl rfl dX9_reference_19 ?_
    refine EV.bipush 22 rfl dX9_reference_20 (v := 9) (by decide) ?_
    refine EV.icmp_le 25 31 rfl (by decide) dX9_reference_22 (fun c8 => ?_) (fun c8 => ?_)
    · have h := h.1 c8
      refine EV.iconst 32 rfl dX9_reference_31 (v := 0) (by decide) ?_
      refine EV.istore 34 rfl [some (.ref v0), some (.int r2), some (.int (gi σ1 v0 24)), some (.int r6), some (.int 0), none] (by decide) rfl dX9_reference_32 ?_
      refine EV.iload_n 35 rfl 2 rfl rfl dX9_reference_34 ?_
      refine EV.istore 37 rfl [some (.ref v0), some (.int r2), some (.int (gi σ1 v0 24)), some (.int r6), some (.int 0), some (.int (gi σ1 v0 24))] (by decide) rfl dX9_reference_35 ?_
      refine EV.mask [true, true, true, false, true, true] (L' := [some (.ref v0), some (.int r2), some (.int (gi σ1 v0 24)), none, some (.int 0), some (.int (gi σ1 v0 24))]) rfl ?_
      exact h
    · have h := h.2 c8
      refine EV.mask [true, false, true, false, false, false] (L' := [some (.ref v0), none, some (.int (gi σ1 v0 24)), none, none, none]) rfl ?_
      exact h
theorem eX9_reference {Γ : Gm} {d : Nat} {σ : AH} {Q : Oc → AH → Prop} {v0 : Nat} (h : hs σ v0 = some (7, 27) ∧ CI Γ d MX9_look [.ref v0] σ (fun r2 σ1 => hs σ1 v0 = some (7, 27) ∧ CI Γ d MX9_digits [.ref v0] σ1 (fun r6 σ5 => ((r6 = 0 → EV Γ MX9_reference d 25 [some (.ref v0), none, some (.int (gi σ1 v0 24)), none, none, none] [] σ5 Q) ∧ (¬ r6 = 0 → ((r6 ≤ 9 → EV Γ MX9_reference d 37 [some (.ref v0), some (.int r2), some (.int (gi σ1 v0 24)), none, some (.int 0), some (.int (gi σ1 v0 24))] [] σ5 Q) ∧ (¬ r6 ≤ 9 → EV Γ MX9_reference d 25 [some (.ref v0), none, some (.int (gi σ1 v0 24)), none, none, none] [] σ5 Q))))) (fun E σ5 => Q (.inr E) σ5)) (fun E σ1 => Q (.inr E) σ1)) : RUN Γ d MX9_reference [.ref v0] σ Q :=
  EV.enter [some (.ref v0), none, none, none, none, none] rfl (by decide +kernel) (Nat.le_of_ble_eq_true rfl) rfl (gX9_reference_0 h)
theorem gX9_reference_25 {Γ : Gm} {d : Nat} {σ : AH} {Q : Oc → AH → Prop} {v0 : Nat} {v2 : Int32} (h : hs σ v0 = some (7, 27) ∧ CV Γ d MX9_wrong [.ref v0, .int v2] σ (fun σ1 => Q (.inl none) σ1) (fun E σ1 => Q (.inr E) σ1)) : EV Γ MX9_reference d 25 [some (.ref v0), none, some (.int v2), none, none, none] [] σ Q := by
  refine EV.aload_n 26 rfl 0 rfl rfl dX9_reference_25 ?_
  refine EV.iload_n 27 rfl 2 rfl rfl dX9_reference_26 ?_
  obtain ⟨w3, h⟩ := h
  refine EV.cV rfl rfl lk_X9_187 rfl (vs := [.int v2]) (st := []) rfl rfl (Nat.le_of_ble_eq_true rfl) dX9_reference_27 w3 h (fun v σ1 h => ?_)
  obtain ⟨rfl, h⟩ := h
  show EV Γ MX9_reference d 30 [some (.ref v0), none, some (.int v2), none, none, none] [] σ1 Q
  exact EV.vret rfl dX9_reference_30 h
theorem gX9_reference_37 {Γ : Gm} {d : Nat} {σ : AH} {Q : Oc → AH → Prop} {v0 : Nat} {v1 : Int32} {v2 : Int32} {v4 : Int32} {v5 : Int32} (h : hs σ v0 = some (7, 27) ∧ (((gi σ v0 24) ≤ v5 → (((gi σ v0 6) ≤ v4 → EV Γ MX9_reference d 93 [some (.ref v0), none, some (.int v2), none, some (.int v4), none] [] σ Q) ∧ (¬ (gi σ v0 6) ≤ v4 → ∃ t4 : Nat, gr σ v0 8 = some t4 ∧ ∃ n7 : Nat, hs σ t4 = some (21, n7) ∧ ∃ j8 : Nat, IX v4 n7 j8 ∧ (((gi σ t4 j8) ≠ 0 → EV Γ MX9_reference d 93 [some (.ref v0), none, some (.int v2), none, some (.int v4), none] [] σ Q) ∧ ((gi σ t4 j8) = 0 → ((0 ≤ v1 → EV Γ MX9_reference d 98 [some (.ref v0), none, none, none, some (.int v4), none] [] σ Q) ∧ (¬ 0 ≤ v1 → EV Γ MX9_reference d 93 [some (.ref v0), none, some (.int v2), none, some (.int v4), none] [] σ Q))))))) ∧ (¬ (gi σ v0 24) ≤ v5 → ∃ t12 : Nat, gr σ v0 1 = some t12 ∧ ∃ n15 : Nat, hs σ t12 = some (20, n15) ∧ ∃ j16 : Nat, IX v5 n15 j16 ∧ EV Γ MX9_reference d 37 [some (.ref v0), some (.int v1), some (.int v2), none, some (.int ((((10 : Int32) * v4) + (gi σ t12 j16)) - 48)), some (.int (v5 + 1))] [] σ Q))) : EV Γ MX9_reference d 37 [some (.ref v0), some (.int v1), some (.int v2), none, some (.int v4), some (.int v5)] [] σ Q := by
  refine EV.iload 39 rfl rfl dX9_reference_37 ?_
  refine EV.aload_n 40 rfl 0 rfl rfl dX9_reference_39 ?_
  obtain ⟨w1, h⟩ := h
  refine EV.getI 43 rfl fl_X9_149 rfl dX9_reference_40 w1 ?_
  refine EV.icmp_ge 46 70 rfl (by decide) dX9_reference_43 (fun c2 => ?_) (fun c2 => ?_)
  · have h := h.1 c2
    refine EV.iload 72 rfl rfl dX9_reference_70 ?_
    refine EV.aload_n 73 rfl 0 rfl rfl dX9_reference_72 ?_
    refine EV.getI 76 rfl fl_X9_133 rfl dX9_reference_73 w1 ?_
    refine EV.icmp_ge 79 93 rfl (by decide) dX9_reference_76 (fun c3 => ?_) (fun c3 => ?_)
    · have h := h.1 c3
      refine EV.mask [true, false, true, false, true, false] (L' := [some (.ref v0), none, some (.int v2), none, some (.int v4), none]) rfl ?_
      exact h
    · have h := h.2 c3
      refine EV.aload_n 80 rfl 0 rfl rfl dX9_reference_79 ?_
      obtain ⟨t4, g5, h⟩ := h
      refine EV.getR 83 rfl fl_X9_20 rfl dX9_reference_80 w1 g5 ?_
      refine EV.iload 85 rfl rfl dX9_reference_83 ?_
      obtain ⟨n7, w6, h⟩ := h
      obtain ⟨j8, x9, h⟩ := h
      refine EV.zald 86 rfl dX9_reference_85 w6 x9 ?_
      refine EV.if_ne 89 93 rfl (by decide) dX9_reference_86 (fun c10 => ?_) (fun c10 => ?_)
      · have h := h.1 c10
        refine EV.mask [true, false, true, false, true, false] (L' := [some (.ref v0), none, some (.int v2), none, some (.int v4), none]) rfl ?_
        exact h
      · have h := h.2 c10
        refine EV.iload_n 90 rfl 1 rfl rfl dX9_reference_89 ?_
        refine EV.if_ge 93 98 rfl (by decide) dX9_reference_90 (fun c11 => ?_) (fun c11 => ?_)
        · have h := h.1 c11
          refine EV.mask [true, false, false, false, true, false] (L' := [some (.ref v0), none, none, none, some (.int v4), none]) rfl ?_
          exact h
        · have h := h.2 c11
          refine EV.mask [true, false, true, false, true, false] (L' := [some (.ref v0), none, some (.int v2), none, some (.int v4), none]) rfl ?_
          exact h
  · have h := h.2 c2
    refine EV.bipush 48 rfl dX9_reference_46 (v := 10) (by decide) ?_
    refine EV.iload 50 rfl rfl dX9_reference_48 ?_
    refine EV.imul 51 rfl dX9_reference_50 ?_
    refine EV.aload_n 52 rfl 0 rfl rfl dX9_reference_51 ?_
    obtain ⟨t12, g13, h⟩ := h
    refine EV.getR 55 rfl fl_X9_9 rfl dX9_reference_52 w1 g13 ?_
    refine EV.iload 57 rfl rfl dX9_reference_55 ?_
    obtain ⟨n15, w14, h⟩ := h
    obtain ⟨j16, x17, h⟩ := h
    refine EV.bald 58 rfl dX9_reference_57 w14 x17 ?_
    refine EV.iadd 59 rfl dX9_reference_58 ?_
    refine EV.bipush 61 rfl dX9_reference_59 (v := 48) (by decide) ?_
    refine EV.isub 62 rfl dX9_reference_61 ?_
    refine EV.istore 64 rfl [some (.ref v0), some (.int v1), some (.int v2), none, some (.int ((((10 : Int32) * v4) + (gi σ t12 j16)) - 48)), some (.int v5)] (by decide) rfl dX9_reference_62 ?_
    refine EV.iinc 67 rfl [some (.ref v0), some (.int v1), some (.int v2), none, some (.int ((((10 : Int32) * v4) + (gi σ t12 j16)) - 48)), some (.int (v5 + 1))] (v := 1) (by decide) (by decide) rfl rfl dX9_reference_64 ?_
    refine EV.goto 37 (by decide) dX9_reference_67 ?_
    exact h
theorem gX9_reference_93 {Γ : Gm} {d : Nat} {σ : AH} {Q : Oc → AH → Prop} {v0 : Nat} {v2 : Int32} {v4 : Int32} (h : hs σ v0 = some (7, 27) ∧ CV Γ d MX9_wrong [.ref v0, .int v2] σ (fun σ1 => EV Γ MX9_reference d 98 [some (.ref v0), none, none, none, some (.int v4), none] [] σ1 Q) (fun E σ1 => Q (.inr E) σ1)) : EV Γ MX9_reference d 93 [some (.ref v0), none, some (.int v2), none, some (.int v4), none] [] σ Q := by
  refine EV.aload_n 94 rfl 0 rfl rfl dX9_reference_93 ?_
  refine EV.iload_n 95 rfl 2 rfl rfl dX9_reference_94 ?_
  obtain ⟨w3, h⟩ := h
  refine EV.cV rfl rfl lk_X9_187 rfl (vs := [.int v2]) (st := []) rfl rfl (Nat.le_of_ble_eq_true rfl) dX9_reference_95 w3 h (fun v σ1 h => ?_)
  obtain ⟨rfl, h⟩ := h
  show EV Γ MX9_reference d 98 [some (.ref v0), none, some (.int v2), none, some (.int v4), none] [] σ1 Q
  refine EV.mask [true, false, false, false, true, false] (L' := [some (.ref v0), none, none, none, some (.int v4), none]) rfl ?_
  exact h
theorem gX9_reference_98 {Γ : Gm} {d : Nat} {σ : AH} {Q : Oc → AH → Prop} {v0 : Nat} {v4 : Int32} (h : hs σ v0 = some (7, 27) ∧ CV Γ d MX9_add [.ref v0, .int ((10000 : Int32) + v4)] σ (fun σ1 => Q (.inl none) σ1) (fun E σ1 => Q (.inr E) σ1)) : EV Γ MX9_reference d 98 [some (.ref v0), none, none, none, some (.int v4), none] [] σ Q := by
  refine EV.aload_n 99 rfl 0 rfl rfl dX9_reference_98 ?_
  refine EV.sipush 102 rfl dX9_reference_99 (v := 10000) (by decide) ?_
  refine EV.iload 104 rfl rfl dX9_reference_102 ?_
  refine EV.iadd 105 rfl dX9_reference_104 ?_
  obtain ⟨w3, h⟩ := h
  refine EV.cV rfl rfl lk_X9_162 rfl (vs := [.int ((10000 : Int32) + v4)]) (st := []) rfl rfl (Nat.le_of_ble_eq_true rfl) dX9_reference_105 w3 h (fun v σ1 h => ?_)
  obtain ⟨rfl, h⟩ := h
  show EV Γ MX9_reference d 108 [some (.ref v0), none, none, none, some (.int v4), none] [] σ1 Q
  exact EV.vret rfl dX9_reference_108 h
theorem gX9_group_0 {Γ : Gm} {d : Nat} {σ : AH} {Q : Oc → AH → Prop} {v0 : Nat} (h : hs σ v0 = some (7, 27) ∧ CI Γ d MX9_look [.ref v0] σ (fun r2 σ1 => ((r2 ≠ 40 → EV Γ MX9_group d 18 [some (.ref v0)] [] σ1 Q) ∧ (r2 = 40 → hs σ1 v0 = some (7, 27) ∧ (((gi σ1 v0 25) ≠ 20 → ∀ σ7 : AH, σ7 = setI σ1 v0 24 ((gi σ1 v0 24) + 1) → ∀ σ10 : AH, σ10 = setI σ7 v0 25 ((gi σ7 v0 25) + 1) → CV Γ d MX9_sum [.ref v0] σ10 (fun σ13 => hs σ13 v0 = some (7, 27) ∧ ((0 ≤ (gi σ13 v0 26) → EV Γ MX9_group d 75 [some (.ref v0)] [] σ13 Q) ∧ (¬ 0 ≤ (gi σ13 v0 26) → CI Γ d MX9_look [.ref v0] σ13 (fun r18 σ17 => ((r18 = 41 → EV Γ MX9_group d 75 [some (.ref v0)] [] σ17 Q) ∧ (¬ r18 = 41 → hs σ17 v0 = some (7, 27) ∧ CV Γ d MX9_wrong [.ref v0, .int (gi σ17 v0 24)] σ17 (fun σ21 => EV Γ MX9_group d 75 [some (.ref v0)] [] σ21 Q) (fun E σ21 => Q (.inr E) σ21)))) (fun E σ17 => Q (.inr E) σ17)))) (fun E σ13 => Q (.inr E) σ13)) ∧ ((gi σ1 v0 25) = 20 → EV Γ MX9_group d 18 [some (.ref v0)] [] σ1 Q))))) (fun E σ1 => Q (.inr E) σ1)) : EV Γ MX9_group d 0 [some (.ref v0)] [] σ Q := by
  refine EV.aload_n 1 rfl 0 rfl rfl dX9_group_0 ?_
  obtain ⟨w3, h⟩ := h
  refine EV.cV rfl rfl lk_X9_158 rfl (vs := []) (st := []) rfl rfl (Nat.le_of_ble_eq_true rfl) dX9_group_1 w3 h (fun v σ1 h => ?_)
  obtain ⟨r2, rfl, h⟩ := h
  show EV Γ MX9_group d 4 [some (.ref v0)] [.int r2] σ1 Q
  refine EV.bipush 6 rfl dX9_group_4 (v := 40) (by decide) ?_
  refine EV.icmp_ne 9 18 rfl (by decide) dX9_group_6 (fun c4 => ?_) (fun c4 => ?_)
  · have h := h.1 c4
    exact h
  · have h := h.2 c4
    refine EV.aload_n 10 rfl 0 rfl rfl dX9_group_9 ?_
    obtain ⟨w5, h⟩ := h
    refine EV.getI 13 rfl fl_X9_190 rfl dX9_group_10 w5 ?_
    refine EV.bipush 15 rfl dX9_group_13 (v := 20) (by decide) ?_
    refine EV.icmp_ne 18 27 rfl (by decide) dX9_group_15 (fun c6 => ?_) (fun c6 => ?_)
    · have h := h.1 c6
      refine EV.aload_n 28 rfl 0 rfl rfl dX9_group_27 ?_
      refine EV.dup 29 rfl dX9_group_28 rfl ?_
      refine EV.getI 32 rfl fl_X9_149 rfl dX9_group_29 w5 ?_
      refine EV.iconst 33 rfl dX9_group_32 (v := 1) (by decide) ?_
      refine EV.iadd 34 rfl dX9_group_33 ?_
      refine EV.putI 37 rfl fw_X9_149 rfl (by decide) dX9_group_34 w5 (EV.nm (fun σ7 e8 => ?_))
      have h := h σ7 e8
      have w9 := tr_hs (hs_setI_of e8) w5
      refine EV.aload_n 38 rfl 0 rfl rfl dX9_group_37 ?_
      refine EV.dup 39 rfl dX9_group_38 rfl ?_
      refine EV.getI 42 rfl fl_X9_190 rfl dX9_group_39 w9 ?_
      refine EV.iconst 43 rfl dX9_group_42 (v := 1) (by decide) ?_
      refine EV.iadd 44 rfl dX9_group_43 ?_
      refine EV.putI 47 rfl fw_X9_190 rfl (by decide) dX9_group_44 w9 (EV.nm (fun σ10 e11 => ?_))
      have h := h σ10 e11
      have w12 := tr_hs (hs_setI_of e11) w9
      refine EV.aload_n 48 rfl 0 rfl rfl dX9_group_47 ?_
      refine EV.cV rfl rfl lk_X9_193 rfl (vs := []) (st := []) rfl rfl (Nat.le_of_ble_eq_true rfl) dX9_group_48 w12 h (fun v σ13 h => ?_)
      obtain ⟨rfl, h⟩ := h
      show EV Γ MX9_group d 51 [some (.ref v0)] [] σ13 Q
      refine EV.aload_n 52 rfl 0 rfl rfl dX9_group_51 ?_
      obtain ⟨w15, h⟩ := h
      refine EV.getI 55 rfl fl_X9_146 rfl dX9_group_52 w15 ?_
      refine EV.if_ge 58 75 rfl (by decide) dX9_group_55 (fun c16 => ?_) (fun c16 => ?_)
      · have h := h.1 c16
        exact h
      · have h := h.2 c16
        refine EV.aload_n 59 rfl 0 rfl rfl dX9_group_58 ?_
        refine EV.cV rfl rfl lk_X9_158 rfl (vs := []) (st := []) rfl rfl (Nat.le_of_ble_eq_true rfl) dX9_group_59 w15 h (fun v σ17 h => ?_)
        obtain ⟨r18, rfl, h⟩ := h
        show EV Γ MX9_group d 62 [some (.ref v0)] [.int r18] σ17 Q
        refine EV.bipush 64 rfl dX9_group_62 (v := 41) (by decide) ?_
        refine EV.icmp_eq 67 75 rfl (by decide) dX9_group_64 (fun c19 => ?_) (fun c19 => ?_)
        · have h := h.1 c19
          exact h
        · have h := h.2 c19
          refine EV.aload_n 68 rfl 0 rfl rfl dX9_group_67 ?_
          refine EV.aload_n 69 rfl 0 rfl rfl dX9_group_68 ?_
          obtain ⟨w20, h⟩ := h
          refine EV.getI 72 rfl fl_X9_149 rfl dX9_group_69 w20 ?_
          refine EV.cV rfl rfl lk_X9_187 rfl (vs := [.int (gi σ17 v0 24)]) (st := []) rfl rfl (Nat.le_of_ble_eq_true rfl) dX9_group_72 w20 h (fun v σ21 h => ?_)
          obtain ⟨rfl, h⟩ := h
          show EV Γ MX9_group d 75 [some (.ref v0)] [] σ21 Q
          exact h
    · have h := h.2 c6
      exact h
theorem eX9_group {Γ : Gm} {d : Nat} {σ : AH} {Q : Oc → AH → Prop} {v0 : Nat} (h : hs σ v0 = some (7, 27) ∧ CI Γ d MX9_look [.ref v0] σ (fun r2 σ1 => ((r2 ≠ 40 → EV Γ MX9_group d 18 [some (.ref v0)] [] σ1 Q) ∧ (r2 = 40 → hs σ1 v0 = some (7, 27) ∧ (((gi σ1 v0 25) ≠ 20 → ∀ σ7 : AH, σ7 = setI σ1 v0 24 ((gi σ1 v0 24) + 1) → ∀ σ10 : AH, σ10 = setI σ7 v0 25 ((gi σ7 v0 25) + 1) → CV Γ d MX9_sum [.ref v0] σ10 (fun σ13 => hs σ13 v0 = some (7, 27) ∧ ((0 ≤ (gi σ13 v0 26) → EV Γ MX9_group d 75 [some (.ref v0)] [] σ13 Q) ∧ (¬ 0 ≤ (gi σ13 v0 26) → CI Γ d MX9_look [.ref v0] σ13 (fun r18 σ17 => ((r18 = 41 → EV Γ MX9_group d 75 [some (.ref v0)] [] σ17 Q) ∧ (¬ r18 = 41 → hs σ17 v0 = some (7, 27) ∧ CV Γ d MX9_wrong [.ref v0, .int (gi σ17 v0 24)] σ17 (fun σ21 => EV Γ MX9_group d 75 [some (.ref v0)] [] σ21 Q) (fun E σ21 => Q (.inr E) σ21)))) (fun E σ17 => Q (.inr E) σ17)))) (fun E σ13 => Q (.inr E) σ13)) ∧ ((gi σ1 v0 25) = 20 → EV Γ MX9_group d 18 [some (.ref v0)] [] σ1 Q))))) (fun E σ1 => Q (.inr E) σ1)) : RUN Γ d MX9_group [.ref v0] σ Q :=
  EV.enter [some (.ref v0)] rfl (by decide +kernel) (Nat.le_of_ble_eq_true rfl) rfl (gX9_group_0 h)
theorem gX9_group_18 {Γ : Gm} {d : Nat} {σ : AH} {Q : Oc → AH → Prop} {v0 : Nat} (h : hs σ v0 = some (7, 27) ∧ CV Γ d MX9_wrong [.ref v0, .int (gi σ v0 24)] σ (fun σ2 => Q (.inl none) σ2) (fun E σ2 => Q (.inr E) σ2)) : EV Γ MX9_group d 18 [some (.ref v0)] [] σ Q := by
  refine EV.aload_n 19 rfl 0 rfl rfl dX9_group_18 ?_
  refine EV.aload_n 20 rfl 0 rfl rfl dX9_group_19 ?_
  obtain ⟨w1, h⟩ := h
  refine EV.getI 23 rfl fl_X9_149 rfl dX9_group_20 w1 ?_
  refine EV.cV rfl rfl lk_X9_187 rfl (vs := [.int (gi σ v0 24)]) (st := []) rfl rfl (Nat.le_of_ble_eq_true rfl) dX9_group_23 w1 h (fun v σ2 h => ?_)
  obtain ⟨rfl, h⟩ := h
  show EV Γ MX9_group d 26 [some (.ref v0)] [] σ2 Q
  exact EV.vret rfl dX9_group_26 h
theorem gX9_group_75 {Γ : Gm} {d : Nat} {σ : AH} {Q : Oc → AH → Prop} {v0 : Nat} (h : hs σ v0 = some (7, 27) ∧ ∀ σ2 : AH, σ2 = setI σ v0 24 ((gi σ v0 24) + 1) → ∀ σ5 : AH, σ5 = setI σ2 v0 25 ((gi σ2 v0 25) - 1) → Q (.inl none) σ5) : EV Γ MX9_group d 75 [some (.ref v0)] [] σ Q := by
  refine EV.aload_n 76 rfl 0 rfl rfl dX9_group_75 ?_
  refine EV.dup 77 rfl dX9_group_76 rfl ?_
  obtain ⟨w1, h⟩ := h
  refine EV.getI 80 rfl fl_X9_149 rfl dX9_group_77 w1 ?_
  refine EV.iconst 81 rfl dX9_group_80 (v := 1) (by decide) ?_
  refine EV.iadd 82 rfl dX9_group_81 ?_
  refine EV.putI 85 rfl fw_X9_149 rfl (by decide) dX9_group_82 w1 (EV.nm (fun σ2 e3 => ?_))
  have h := h σ2 e3
  have w4 := tr_hs (hs_setI_of e3) w1
  refine EV.aload_n 86 rfl 0 rfl rfl dX9_group_85 ?_
  refine EV.dup 87 rfl dX9_group_86 rfl ?_
  refine EV.getI 90 rfl fl_X9_190 rfl dX9_group_87 w4 ?_
  refine EV.iconst 91 rfl dX9_group_90 (v := 1) (by decide) ?_
  refine EV.isub 92 rfl dX9_group_91 ?_
  refine EV.putI 95 rfl fw_X9_190 rfl (by decide) dX9_group_92 w4 (EV.nm (fun σ5 e6 => ?_))
  have h := h σ5 e6
  have w7 := tr_hs (hs_setI_of e6) w4
  exact EV.vret rfl dX9_group_95 h
theorem gX9_isWord_0 {Γ : Gm} {d : Nat} {σ : AH} {Q : Oc → AH → Prop} {v0 : Nat} {v1 : Int32} {v2 : Int32} {v3 : Int32} {v4 : Int32} (h : hs σ v0 = some (7, 27) ∧ ((((gi σ v0 24) - v1) ≠ 3 → Q (.inl (some (.int 0))) σ) ∧ (((gi σ v0 24) - v1) = 3 → ∃ t3 : Nat, gr σ v0 1 = some t3 ∧ ∃ n6 : Nat, hs σ t3 = some (20, n6) ∧ ∃ j7 : Nat, IX v1 n6 j7 ∧ (((gi σ t3 j7) ≠ v2 → Q (.inl (some (.int 0))) σ) ∧ ((gi σ t3 j7) = v2 → ∃ j10 : Nat, IX (v1 + 1) n6 j10 ∧ (((gi σ t3 j10) ≠ v3 → Q (.inl (some (.int 0))) σ) ∧ ((gi σ t3 j10) = v3 → ∃ j13 : Nat, IX (v1 + 2) n6 j13 ∧ (((gi σ t3 j13) ≠ v4 → Q (.inl (some (.int 0))) σ) ∧ ((gi σ t3 j13) = v4 → Q (.inl (some (.int 1))) σ))))))))) : EV Γ MX9_isWord d 0 [some (.ref v0), some (.int v1), some (.int v2), some (.int v3), some (.int v4)] [] σ Q := by
  refine EV.aload_n 1 rfl 0 rfl rfl dX9_isWord_0 ?_
  obtain ⟨w1, h⟩ := h
  refine EV.getI 4 rfl fl_X9_149 rfl dX9_isWord_1 w1 ?_
  refine EV.iload_n 5 rfl 1 rfl rfl dX9_isWord_4 ?_
  refine EV.isub 6 rfl dX9_isWord_5 ?_
  refine EV.iconst 7 rfl dX9_isWord_6 (v := 3) (by decide) ?_
  refine EV.icmp_ne 10 49 rfl (by decide) dX9_isWord_7 (fun c2 => ?_) (fun c2 => ?_)
  · have h := h.1 c2
    refine EV.iconst 50 rfl dX9_isWord_49 (v := 0) (by decide) ?_
    exact EV.zret rfl rfl dX9_isWord_50 h
  · have h := h.2 c2
    refine EV.aload_n 11 rfl 0 rfl rfl dX9_isWord_10 ?_
    obtain ⟨t3, g4, h⟩ := h
    refine EV.getR 14 rfl fl_X9_9 rfl dX9_isWord_11 w1 g4 ?_
    refine EV.iload_n 15 rfl 1 rfl rfl dX9_isWord_14 ?_
    obtain ⟨n6, w5, h⟩ := h
    obtain ⟨j7, x8, h⟩ := h
    refine EV.bald 16 rfl dX9_isWord_15 w5 x8 ?_
    refine EV.iload_n 17 rfl 2 rfl rfl dX9_isWord_16 ?_
    refine EV.icmp_ne 20 49 rfl (by decide) dX9_isWord_17 (fun c9 => ?_) (fun c9 => ?_)
    · have h := h.1 c9
      refine EV.iconst 50 rfl dX9_isWord_49 (v := 0) (by decide) ?_
      exact EV.zret rfl rfl dX9_isWord_50 h
    · have h := h.2 c9
      refine EV.aload_n 21 rfl 0 rfl rfl dX9_isWord_20 ?_
      refine EV.getR 24 rfl fl_X9_9 rfl dX9_isWord_21 w1 g4 ?_
      refine EV.iload_n 25 rfl 1 rfl rfl dX9_isWord_24 ?_
      refine EV.iconst 26 rfl dX9_isWord_25 (v := 1) (by decide) ?_
      refine EV.iadd 27 rfl dX9_isWord_26 ?_
      obtain ⟨j10, x11, h⟩ := h
      refine EV.bald 28 rfl dX9_isWord_27 w5 x11 ?_
      refine EV.iload_n 29 rfl 3 rfl rfl dX9_isWord_28 ?_
      refine EV.icmp_ne 32 49 rfl (by decide) dX9_isWord_29 (fun c12 => ?_) (fun c12 => ?_)
      · have h := h.1 c12
        refine EV.iconst 50 rfl dX9_isWord_49 (v := 0) (by decide) ?_
        exact EV.zret rfl rfl dX9_isWord_50 h
      · have h := h.2 c12
        refine EV.aload_n 33 rfl 0 rfl rfl dX9_isWord_32 ?_
        refine EV.getR 36 rfl fl_X9_9 rfl dX9_isWord_33 w1 g4 ?_
        refine EV.iload_n 37 rfl 1 rfl rfl dX9_isWord_36 ?_
        refine EV.iconst 38 rfl dX9_isWord_37 (v := 2) (by decide) ?_
        refine EV.iadd 39 rfl dX9_isWord_38 ?_
        obtain ⟨j13, x14, h⟩ := h
        refine EV.bald 40 rfl dX9_isWord_39 w5 x14 ?_
        refine EV.iload 42 rfl rfl dX9_isWord_40 ?_
        refine EV.icmp_ne 45 49 rfl (by decide) dX9_isWord_42 (fun c15 => ?_) (fun c15 => ?_)
        · have h := h.1 c15
          refine EV.iconst 50 rfl dX9_isWord_49 (v := 0) (by decide) ?_
          exact EV.zret rfl rfl dX9_isWord_50 h
        · have h := h.2 c15
          refine EV.iconst 46 rfl dX9_isWord_45 (v := 1) (by decide) ?_
          refine EV.goto 50 (by decide) dX9_isWord_46 ?_
          exact EV.zret rfl rfl dX9_isWord_50 h
theorem eX9_isWord {Γ : Gm} {d : Nat} {σ : AH} {Q : Oc → AH → Prop} {v0 : Nat} {v1 : Int32} {v2 : Int32} {v3 : Int32} {v4 : Int32} (h : hs σ v0 = some (7, 27) ∧ ((((gi σ v0 24) - v1) ≠ 3 → Q (.inl (some (.int 0))) σ) ∧ (((gi σ v0 24) - v1) = 3 → ∃ t3 : Nat, gr σ v0 1 = some t3 ∧ ∃ n6 : Nat, hs σ t3 = some (20, n6) ∧ ∃ j7 : Nat, IX v1 n6 j7 ∧ (((gi σ t3 j7) ≠ v2 → Q (.inl (some (.int 0))) σ) ∧ ((gi σ t3 j7) = v2 → ∃ j10 : Nat, IX (v1 + 1) n6 j10 ∧ (((gi σ t3 j10) ≠ v3 → Q (.inl (some (.int 0))) σ) ∧ ((gi σ t3 j10) = v3 → ∃ j13 : Nat, IX (v1 + 2) n6 j13 ∧ (((gi σ t3 j13) ≠ v4 → Q (.inl (some (.int 0))) σ) ∧ ((gi σ t3 j13) = v4 → Q (.inl (some (.int 1))) σ))))))))) : RUN Γ d MX9_isWord [.ref v0, .int v1, .int v2, .int v3, .int v4] σ Q :=
  EV.enter [some (.ref v0), some (.int v1), some (.int v2), some (.int v3), some (.int v4)] rfl (by decide +kernel) (Nat.le_of_ble_eq_true rfl) rfl (gX9_isWord_0 h)
theorem gX9_word_0 {Γ : Gm} {d : Nat} {σ : AH} {Q : Oc → AH → Prop} {v0 : Nat} (h : hs σ v0 = some (7, 27) ∧ EV Γ MX9_word d 9 [some (.ref v0), some (.int (gi σ v0 24)), some (.int 0), some (.int 1), none, none] [] σ Q) : EV Γ MX9_word d 0 [some (.ref v0), none, none, none, none, none] [] σ Q := by
  refine EV.aload_n 1 rfl 0 rfl rfl dX9_word_0 ?_
  obtain ⟨w1, h⟩ := h
  refine EV.getI 4 rfl fl_X9_149 rfl dX9_word_1 w1 ?_
  refine EV.istore_n 5 rfl 1 [some (.ref v0), some (.int (gi σ v0 24)), none, none, none, none] rfl (by decide) rfl dX9_word_4 ?_
  refine EV.iconst 6 rfl dX9_word_5 (v := 0) (by decide) ?_
  refine EV.istore_n 7 rfl 2 [some (.ref v0), some (.int (gi σ v0 24)), some (.int 0), none, none, none] rfl (by decide) rfl dX9_word_6 ?_
  refine EV.iconst 8 rfl dX9_word_7 (v := 1) (by decide) ?_
  refine EV.istore_n 9 rfl 3 [some (.ref v0), some (.int (gi σ v0 24)), some (.int 0), some (.int 1), none, none] rfl (by decide) rfl dX9_word_8 ?_
  exact h
theorem eX9_word {Γ : Gm} {d : Nat} {σ : AH} {Q : Oc → AH → Prop} {v0 : Nat} (h : hs σ v0 = some (7, 27) ∧ EV Γ MX9_word d 9 [some (.ref v0), some (.int (gi σ v0 24)), some (.int 0), some (.int 1), none, none] [] σ Q) : RUN Γ d MX9_word [.ref v0] σ Q :=
  EV.enter [some (.ref v0), none, none, none, none, none] rfl (by decide +kernel) (Nat.le_of_ble_eq_true rfl) rfl (gX9_word_0 h)
theorem gX9_word_9 {Γ : Gm} {d : Nat} {σ : AH} {Q : Oc → AH → Prop} {v0 : Nat} {v1 : Int32} {v2 : Int32} {v3 : Int32} (h : hs σ v0 = some (7, 27) ∧ (((gi σ v0 2) ≤ (gi σ v0 24) → EV Γ MX9_word d 103 [some (.ref v0), some (.int v1), some (.int v2), some (.int v3), none, none] [] σ Q) ∧ (¬ (gi σ v0 2) ≤ (gi σ v0 24) → ∃ t3 : Nat, gr σ v0 1 = some t3 ∧ ∃ n6 : Nat, hs σ t3 = some (20, n6) ∧ ∃ j7 : Nat, IX (gi σ v0 24) n6 j7 ∧ CI Γ d MX9_isLetter [.int (gi σ t3 j7)] σ (fun r10 σ9 => ((r10 = 0 → EV Γ MX9_word d 103 [some (.ref v0), some (.int v1), some (.int v2), some (.int v3), none, none] [] σ9 Q) ∧ (¬ r10 = 0 → hs σ9 v0 = some (7, 27) ∧ ∃ t13 : Nat, gr σ9 v0 1 = some t13 ∧ ∃ n16 : Nat, hs σ9 t13 = some (20, n16) ∧ ∃ j17 : Nat, IX (gi σ9 v0 24) n16 j17 ∧ ((v3 = 0 → EV Γ MX9_word d 74 [some (.ref v0), some (.int v1), some (.int v2), none, some (.int ((gi σ9 t13 j17) - 97)), none] [.int 0] σ9 Q) ∧ (¬ v3 = 0 → ((12 ≤ ((gi σ9 t13 j17) - 97) → EV Γ MX9_word d 74 [some (.ref v0), some (.int v1), some (.int v2), none, some (.int ((gi σ9 t13 j17) - 97)), none] [.int 0] σ9 Q) ∧ (¬ 12 ≤ ((gi σ9 t13 j17) - 97) → ((((v2 >>> (((gi σ9 t13 j17) - 97) &&& 31)) &&& 1) ≠ 0 → EV Γ MX9_word d 74 [some (.ref v0), some (.int v1), some (.int v2), none, some (.int ((gi σ9 t13 j17) - 97)), none] [.int 0] σ9 Q) ∧ (((v2 >>> (((gi σ9 t13 j17) - 97) &&& 31)) &&& 1) = 0 → EV Γ MX9_word d 74 [some (.ref v0), some (.int v1), some (.int v2), none, some (.int ((gi σ9 t13 j17) - 97)), none] [.int 1] σ9 Q))))))))) (fun _ _ => False)))) : EV Γ MX9_word d 9 [some (.ref v0), some (.int v1), some (.int v2), some (.int v3), none, none] [] σ Q := by
  refine EV.aload_n 10 rfl 0 rfl rfl dX9_word_9 ?_
  obtain ⟨w1, h⟩ := h
  refine EV.getI 13 rfl fl_X9_149 rfl dX9_word_10 w1 ?_
  refine EV.aload_n 14 rfl 0 rfl rfl dX9_word_13 ?_
  refine EV.getI 17 rfl fl_X9_136 rfl dX9_word_14 w1 ?_
  refine EV.icmp_ge 20 103 rfl (by decide) dX9_word_17 (fun c2 => ?_) (fun c2 => ?_)
  · have h := h.1 c2
    exact h
  · have h := h.2 c2
    refine EV.aload_n 21 rfl 0 rfl rfl dX9_word_20 ?_
    obtain ⟨t3, g4, h⟩ := h
    refine EV.getR 24 rfl fl_X9_9 rfl dX9_word_21 w1 g4 ?_
    refine EV.aload_n 25 rfl 0 rfl rfl dX9_word_24 ?_
    refine EV.getI 28 rfl fl_X9_149 rfl dX9_word_25 w1 ?_
    obtain ⟨n6, w5, h⟩ := h
    obtain ⟨j7, x8, h⟩ := h
    refine EV.bald 29 rfl dX9_word_28 w5 x8 ?_
    refine EV.cS rfl lk_X9_171 rfl (vs := [.int (gi σ t3 j7)]) (st := []) rfl rfl (Nat.le_of_ble_eq_true rfl) dX9_word_29 h (fun v σ9 h => ?_)
    obtain ⟨r10, rfl, h⟩ := h
    show EV Γ MX9_word d 32 [some (.ref v0), some (.int v1), some (.int v2), some (.int v3), none, none] [.int r10] σ9 Q
    refine EV.if_eq 35 103 rfl (by decide) dX9_word_32 (fun c11 => ?_) (fun c11 => ?_)
    · have h := h.1 c11
      exact h
    · have h := h.2 c11
      refine EV.aload_n 36 rfl 0 rfl rfl dX9_word_35 ?_
      obtain ⟨w12, h⟩ := h
      obtain ⟨t13, g14, h⟩ := h
      refine EV.getR 39 rfl fl_X9_9 rfl dX9_word_36 w12 g14 ?_
      refine EV.aload_n 40 rfl 0 rfl rfl dX9_word_39 ?_
      refine EV.getI 43 rfl fl_X9_149 rfl dX9_word_40 w12 ?_
      obtain ⟨n16, w15, h⟩ := h
      obtain ⟨j17, x18, h⟩ := h
      refine EV.bald 44 rfl dX9_word_43 w15 x18 ?_
      refine EV.bipush 46 rfl dX9_word_44 (v := 97) (by decide) ?_
      refine EV.isub 47 rfl dX9_word_46 ?_
      refine EV.istore 49 rfl [some (.ref v0), some (.int v1), some (.int v2), some (.int v3), some (.int ((gi σ9 t13 j17) - 97)), none] (by decide) rfl dX9_word_47 ?_
      refine EV.iload_n 50 rfl 3 rfl rfl dX9_word_49 ?_
      refine EV.if_eq 53 73 rfl (by decide) dX9_word_50 (fun c19 => ?_) (fun c19 => ?_)
      · have h := h.1 c19
        refine EV.iconst 74 rfl dX9_word_73 (v := 0) (by decide) ?_
        refine EV.mask [true, true, true, false, true, false] (L' := [some (.ref v0), some (.int v1), some (.int v2), none, some (.int ((gi σ9 t13 j17) - 97)), none]) rfl ?_
        exact h
      · have h := h.2 c19
        refine EV.iload 55 rfl rfl dX9_word_53 ?_
        refine EV.bipush 57 rfl dX9_word_55 (v := 12) (by decide) ?_
        refine EV.icmp_ge 60 73 rfl (by decide) dX9_word_57 (fun c20 => ?_) (fun c20 => ?_)
        · have h := h.1 c20
          refine EV.iconst 74 rfl dX9_word_73 (v := 0) (by decide) ?_
          refine EV.mask [true, true, true, false, true, false] (L' := [some (.ref v0), some (.int v1), some (.int v2), none, some (.int ((gi σ9 t13 j17) - 97)), none]) rfl ?_
          exact h
        · have h := h.2 c20
          refine EV.iload_n 61 rfl 2 rfl rfl dX9_word_60 ?_
          refine EV.iload 63 rfl rfl dX9_word_61 ?_
          refine EV.ishr 64 rfl dX9_word_63 ?_
          refine EV.iconst 65 rfl dX9_word_64 (v := 1) (by decide) ?_
          refine EV.iand 66 rfl dX9_word_65 ?_
          refine EV.if_ne 69 73 rfl (by decide) dX9_word_66 (fun c21 => ?_) (fun c21 => ?_)
          · have h := h.1 c21
            refine EV.iconst 74 rfl dX9_word_73 (v := 0) (by decide) ?_
            refine EV.mask [true, true, true, false, true, false] (L' := [some (.ref v0), some (.int v1), some (.int v2), none, some (.int ((gi σ9 t13 j17) - 97)), none]) rfl ?_
            exact h
          · have h := h.2 c21
            refine EV.iconst 70 rfl dX9_word_69 (v := 1) (by decide) ?_
            refine EV.goto 74 (by decide) dX9_word_70 ?_
            refine EV.mask [true, true, true, false, true, false] (L' := [some (.ref v0), some (.int v1), some (.int v2), none, some (.int ((gi σ9 t13 j17) - 97)), none]) rfl ?_
            exact h
theorem gX9_word_74 {Γ : Gm} {d : Nat} {σ : AH} {Q : Oc → AH → Prop} {v0 : Nat} {v1 : Int32} {v2 : Int32} {v4 : Int32} {s0 : Int32} (h : ((s0 = 0 → EV Γ MX9_word d 88 [some (.ref v0), some (.int v1), none, some (.int s0), none, none] [.int 0, .int v2] σ Q) ∧ (¬ s0 = 0 → EV Γ MX9_word d 88 [some (.ref v0), some (.int v1), none, some (.int s0), none, none] [.int ((1 : Int32) <<< (v4 &&& 31)), .int v2] σ Q))) : EV Γ MX9_word d 74 [some (.ref v0), some (.int v1), some (.int v2), none, some (.int v4), none] [.int s0] σ Q := by
  refine EV.istore_n 75 rfl 3 [some (.ref v0), some (.int v1), some (.int v2), some (.int s0), some (.int v4), none] rfl (by decide) rfl dX9_word_74 ?_
  refine EV.iload_n 76 rfl 2 rfl rfl dX9_word_75 ?_
  refine EV.iload_n 77 rfl 3 rfl rfl dX9_word_76 ?_
  refine EV.if_eq 80 87 rfl (by decide) dX9_word_77 (fun c1 => ?_) (fun c1 => ?_)
  · have h := h.1 c1
    refine EV.iconst 88 rfl dX9_word_87 (v := 0) (by decide) ?_
    refine EV.mask [true, true, false, true, false, false] (L' := [some (.ref v0), some (.int v1), none, some (.int s0), none, none]) rfl ?_
    exact h
  · have h := h.2 c1
    refine EV.iconst 81 rfl dX9_word_80 (v := 1) (by decide) ?_
    refine EV.iload 83 rfl rfl dX9_word_81 ?_
    refine EV.ishl 84 rfl dX9_word_83 ?_
    refine EV.goto 88 (by decide) dX9_word_84 ?_
    refine EV.mask [true, true, false, true, false, false] (L' := [some (.ref v0), some (.int v1), none, some (.int s0), none, none]) rfl ?_
    exact h
theorem gX9_word_88 {Γ : Gm} {d : Nat} {σ : AH} {Q : Oc → AH → Prop} {v0 : Nat} {v1 : Int32} {v3 : Int32} {s0 : Int32} {s1 : Int32} (h : hs σ v0 = some (7, 27) ∧ ∀ σ2 : AH, σ2 = setI σ v0 24 ((gi σ v0 24) + 1) → EV Γ MX9_word d 9 [some (.ref v0), some (.int v1), some (.int (s1 ||| s0)), some (.int v3), none, none] [] σ2 Q) : EV Γ MX9_word d 88 [some (.ref v0), some (.int v1), none, some (.int v3), none, none] [.int s0, .int s1] σ Q := by
  refine EV.ior 89 rfl dX9_word_88 ?_
  refine EV.istore_n 90 rfl 2 [some (.ref v0), some (.int v1), some (.int (s1 ||| s0)), some (.int v3), none, none] rfl (by decide) rfl dX9_word_89 ?_
  refine EV.aload_n 91 rfl 0 rfl rfl dX9_word_90 ?_
  refine EV.dup 92 rfl dX9_word_91 rfl ?_
  obtain ⟨w1, h⟩ := h
  refine EV.getI 95 rfl fl_X9_149 rfl dX9_word_92 w1 ?_
  refine EV.iconst 96 rfl dX9_word_95 (v := 1) (by decide) ?_
  refine EV.iadd 97 rfl dX9_word_96 ?_
  refine EV.putI 100 rfl fw_X9_149 rfl (by decide) dX9_word_97 w1 (EV.nm (fun σ2 e3 => ?_))
  have h := h σ2 e3
  have w4 := tr_hs (hs_setI_of e3) w1
  refine EV.goto 9 (by decide) dX9_word_100 ?_
  exact h
theorem gX9_word_103 {Γ : Gm} {d : Nat} {σ : AH} {Q : Oc → AH → Prop} {v0 : Nat} {v1 : Int32} {v2 : Int32} {v3 : Int32} (h : hs σ v0 = some (7, 27) ∧ CI Γ d MX9_isWord [.ref v0, .int v1, .int 104, .int 105, .int 116] σ (fun r2 σ1 => hs σ1 v0 = some (7, 27) ∧ CI Γ d MX9_isWord [.ref v0, .int v1, .int 109, .int 97, .int 120] σ1 (fun r5 σ4 => ((r5 = 0 → hs σ4 v0 = some (7, 27) ∧ CI Γ d MX9_isWord [.ref v0, .int v1, .int 109, .int 105, .int 110] σ4 (fun r9 σ8 => ((r9 = 0 → ((r2 = 0 → hs σ8 v0 = some (7, 27) ∧ CI Γ d MX9_isWord [.ref v0, .int v1, .int 115, .int 117, .int 98] σ8 (fun r14 σ13 => ((r14 = 0 → EV Γ MX9_word d 184 [some (.ref v0), some (.int v1), some (.int v2), some (.int v3), none, none] [.int 0] σ13 Q) ∧ (¬ r14 = 0 → EV Γ MX9_word d 184 [some (.ref v0), some (.int v1), some (.int v2), some (.int v3), none, none] [.int 13] σ13 Q))) (fun E σ13 => Q (.inr E) σ13)) ∧ (¬ r2 = 0 → EV Γ MX9_word d 184 [some (.ref v0), some (.int v1), some (.int v2), some (.int v3), none, none] [.int 12] σ8 Q))) ∧ (¬ r9 = 0 → EV Γ MX9_word d 184 [some (.ref v0), some (.int v1), some (.int v2), some (.int v3), none, none] [.int 11] σ8 Q))) (fun E σ8 => Q (.inr E) σ8)) ∧ (¬ r5 = 0 → EV Γ MX9_word d 184 [some (.ref v0), some (.int v1), some (.int v2), some (.int v3), none, none] [.int 10] σ4 Q))) (fun E σ4 => Q (.inr E) σ4)) (fun E σ1 => Q (.inr E) σ1)) : EV Γ MX9_word d 103 [some (.ref v0), some (.int v1), some (.int v2), some (.int v3), none, none] [] σ Q := by
  refine EV.aload_n 104 rfl 0 rfl rfl dX9_word_103 ?_
  refine EV.iload_n 105 rfl 1 rfl rfl dX9_word_104 ?_
  refine EV.bipush 107 rfl dX9_word_105 (v := 104) (by decide) ?_
  refine EV.bipush 109 rfl dX9_word_107 (v := 105) (by decide) ?_
  refine EV.bipush 111 rfl dX9_word_109 (v := 116) (by decide) ?_
  obtain ⟨w3, h⟩ := h
  refine EV.cV rfl rfl lk_X9_196 rfl (vs := [.int v1, .int 104, .int 105, .int 116]) (st := []) rfl rfl (Nat.le_of_ble_eq_true rfl) dX9_word_111 w3 h (fun v σ1 h => ?_)
  obtain ⟨r2, rfl, h⟩ := h
  show EV Γ MX9_word d 114 [some (.ref v0), some (.int v1), some (.int v2), some (.int v3), none, none] [.int r2] σ1 Q
  refine EV.istore 116 rfl [some (.ref v0), some (.int v1), some (.int v2), some (.int v3), some (.int r2), none] (by decide) rfl dX9_word_114 ?_
  refine EV.aload_n 117 rfl 0 rfl rfl dX9_word_116 ?_
  refine EV.iload_n 118 rfl 1 rfl rfl dX9_word_117 ?_
  refine EV.bipush 120 rfl dX9_word_118 (v := 109) (by decide) ?_
  refine EV.bipush 122 rfl dX9_word_120 (v := 97) (by decide) ?_
  refine EV.bipush 124 rfl dX9_word_122 (v := 120) (by decide) ?_
  obtain ⟨w6, h⟩ := h
  refine EV.cV rfl rfl lk_X9_196 rfl (vs := [.int v1, .int 109, .int 97, .int 120]) (st := []) rfl rfl (Nat.le_of_ble_eq_true rfl) dX9_word_124 w6 h (fun v σ4 h => ?_)
  obtain ⟨r5, rfl, h⟩ := h
  show EV Γ MX9_word d 127 [some (.ref v0), some (.int v1), some (.int v2), some (.int v3), some (.int r2), none] [.int r5] σ4 Q
  refine EV.if_eq 130 135 rfl (by decide) dX9_word_127 (fun c7 => ?_) (fun c7 => ?_)
  · have h := h.1 c7
    refine EV.aload_n 136 rfl 0 rfl rfl dX9_word_135 ?_
    refine EV.iload_n 137 rfl 1 rfl rfl dX9_word_136 ?_
    refine EV.bipush 139 rfl dX9_word_137 (v := 109) (by decide) ?_
    refine EV.bipush 141 rfl dX9_word_139 (v := 105) (by decide) ?_
    refine EV.bipush 143 rfl dX9_word_141 (v := 110) (by decide) ?_
    obtain ⟨w10, h⟩ := h
    refine EV.cV rfl rfl lk_X9_196 rfl (vs := [.int v1, .int 109, .int 105, .int 110]) (st := []) rfl rfl (Nat.le_of_ble_eq_true rfl) dX9_word_143 w10 h (fun v σ8 h => ?_)
    obtain ⟨r9, rfl, h⟩ := h
    show EV Γ MX9_word d 146 [some (.ref v0), some (.int v1), some (.int v2), some (.int v3), some (.int r2), none] [.int r9] σ8 Q
    refine EV.if_eq 149 154 rfl (by decide) dX9_word_146 (fun c11 => ?_) (fun c11 => ?_)
    · have h := h.1 c11
      refine EV.iload 156 rfl rfl dX9_word_154 ?_
      refine EV.if_eq 159 164 rfl (by decide) dX9_word_156 (fun c12 => ?_) (fun c12 => ?_)
      · have h := h.1 c12
        refine EV.aload_n 165 rfl 0 rfl rfl dX9_word_164 ?_
        refine EV.iload_n 166 rfl 1 rfl rfl dX9_word_165 ?_
        refine EV.bipush 168 rfl dX9_word_166 (v := 115) (by decide) ?_
        refine EV.bipush 170 rfl dX9_word_168 (v := 117) (by decide) ?_
        refine EV.bipush 172 rfl dX9_word_170 (v := 98) (by decide) ?_
        obtain ⟨w15, h⟩ := h
        refine EV.cV rfl rfl lk_X9_196 rfl (vs := [.int v1, .int 115, .int 117, .int 98]) (st := []) rfl rfl (Nat.le_of_ble_eq_true rfl) dX9_word_172 w15 h (fun v σ13 h => ?_)
        obtain ⟨r14, rfl, h⟩ := h
        show EV Γ MX9_word d 175 [some (.ref v0), some (.int v1), some (.int v2), some (.int v3), some (.int r2), none] [.int r14] σ13 Q
        refine EV.if_eq 178 183 rfl (by decide) dX9_word_175 (fun c16 => ?_) (fun c16 => ?_)
        · have h := h.1 c16
          refine EV.iconst 184 rfl dX9_word_183 (v := 0) (by decide) ?_
          refine EV.mask [true, true, true, true, false, false] (L' := [some (.ref v0), some (.int v1), some (.int v2), some (.int v3), none, none]) rfl ?_
          exact h
        · have h := h.2 c16
          refine EV.bipush 180 rfl dX9_word_178 (v := 13) (by decide) ?_
          refine EV.goto 184 (by decide) dX9_word_180 ?_
          refine EV.mask [true, true, true, true, false, false] (L' := [some (.ref v0), some (.int v1), some (.int v2), some (.int v3), none, none]) rfl ?_
          exact h
      · have h := h.2 c12
        refine EV.bipush 161 rfl dX9_word_159 (v := 12) (by decide) ?_
        refine EV.goto 184 (by decide) dX9_word_161 ?_
        refine EV.mask [true, true, true, true, false, false] (L' := [some (.ref v0), some (.int v1), some (.int v2), some (.int v3), none, none]) rfl ?_
        exact h
    · have h := h.2 c11
      refine EV.bipush 151 rfl dX9_word_149 (v := 11) (by decide) ?_
      refine EV.goto 184 (by decide) dX9_word_151 ?_
      refine EV.mask [true, true, true, true, false, false] (L' := [some (.ref v0), some (.int v1), some (.int v2), some (.int v3), none, none]) rfl ?_
      exact h
  · have h := h.2 c7
    refine EV.bipush 132 rfl dX9_word_130 (v := 10) (by decide) ?_
    refine EV.goto 184 (by decide) dX9_word_132 ?_
    refine EV.mask [true, true, true, true, false, false] (L' := [some (.ref v0), some (.int v1), some (.int v2), some (.int v3), none, none]) rfl ?_
    exact h
theorem gX9_word_184 {Γ : Gm} {d : Nat} {σ : AH} {Q : Oc → AH → Prop} {v0 : Nat} {v1 : Int32} {v2 : Int32} {v3 : Int32} {s0 : Int32} (h : ((s0 ≤ 0 → ((v3 = 0 → hs σ v0 = some (7, 27) ∧ CV Γ d MX9_wrong [.ref v0, .int v1] σ (fun σ3 => Q (.inl none) σ3) (fun E σ3 => Q (.inr E) σ3)) ∧ (¬ v3 = 0 → hs σ v0 = some (7, 27) ∧ CV Γ d MX9_add [.ref v0, .int ((100 : Int32) + v2)] σ (fun σ6 => Q (.inl none) σ6) (fun E σ6 => Q (.inr E) σ6)))) ∧ (¬ s0 ≤ 0 → hs σ v0 = some (7, 27) ∧ CV Γ d MX9_group [.ref v0] σ (fun σ9 => hs σ9 v0 = some (7, 27) ∧ CV Γ d MX9_add [.ref v0, .int s0] σ9 (fun σ12 => Q (.inl none) σ12) (fun E σ12 => Q (.inr E) σ12)) (fun E σ9 => Q (.inr E) σ9)))) : EV Γ MX9_word d 184 [some (.ref v0), some (.int v1), some (.int v2), some (.int v3), none, none] [.int s0] σ Q := by
  refine EV.istore 186 rfl [some (.ref v0), some (.int v1), some (.int v2), some (.int v3), none, some (.int s0)] (by decide) rfl dX9_word_184 ?_
  refine EV.iload 188 rfl rfl dX9_word_186 ?_
  refine EV.if_le 191 204 rfl (by decide) dX9_word_188 (fun c1 => ?_) (fun c1 => ?_)
  · have h := h.1 c1
    refine EV.iload_n 205 rfl 3 rfl rfl dX9_word_204 ?_
    refine EV.if_eq 208 219 rfl (by decide) dX9_word_205 (fun c2 => ?_) (fun c2 => ?_)
    · have h := h.1 c2
      refine EV.aload_n 220 rfl 0 rfl rfl dX9_word_219 ?_
      refine EV.iload_n 221 rfl 1 rfl rfl dX9_word_220 ?_
      obtain ⟨w5, h⟩ := h
      refine EV.cV rfl rfl lk_X9_187 rfl (vs := [.int v1]) (st := []) rfl rfl (Nat.le_of_ble_eq_true rfl) dX9_word_221 w5 h (fun v σ3 h => ?_)
      obtain ⟨rfl, h⟩ := h
      show EV Γ MX9_word d 224 [some (.ref v0), some (.int v1), some (.int v2), some (.int v3), none, some (.int s0)] [] σ3 Q
      exact EV.vret rfl dX9_word_224 h
    · have h := h.2 c2
      refine EV.aload_n 209 rfl 0 rfl rfl dX9_word_208 ?_
      refine EV.bipush 211 rfl dX9_word_209 (v := 100) (by decide) ?_
      refine EV.iload_n 212 rfl 2 rfl rfl dX9_word_211 ?_
      refine EV.iadd 213 rfl dX9_word_212 ?_
      obtain ⟨w8, h⟩ := h
      refine EV.cV rfl rfl lk_X9_162 rfl (vs := [.int ((100 : Int32) + v2)]) (st := []) rfl rfl (Nat.le_of_ble_eq_true rfl) dX9_word_213 w8 h (fun v σ6 h => ?_)
      obtain ⟨rfl, h⟩ := h
      show EV Γ MX9_word d 216 [some (.ref v0), some (.int v1), some (.int v2), some (.int v3), none, some (.int s0)] [] σ6 Q
      refine EV.goto 224 (by decide) dX9_word_216 ?_
      exact EV.vret rfl dX9_word_224 h
  · have h := h.2 c1
    refine EV.aload_n 192 rfl 0 rfl rfl dX9_word_191 ?_
    obtain ⟨w11, h⟩ := h
    refine EV.cV rfl rfl lk_X9_168 rfl (vs := []) (st := []) rfl rfl (Nat.le_of_ble_eq_true rfl) dX9_word_192 w11 h (fun v σ9 h => ?_)
    obtain ⟨rfl, h⟩ := h
    show EV Γ MX9_word d 195 [some (.ref v0), some (.int v1), some (.int v2), some (.int v3), none, some (.int s0)] [] σ9 Q
    refine EV.aload_n 196 rfl 0 rfl rfl dX9_word_195 ?_
    refine EV.iload 198 rfl rfl dX9_word_196 ?_
    obtain ⟨w14, h⟩ := h
    refine EV.cV rfl rfl lk_X9_162 rfl (vs := [.int s0]) (st := []) rfl rfl (Nat.le_of_ble_eq_true rfl) dX9_word_198 w14 h (fun v σ12 h => ?_)
    obtain ⟨rfl, h⟩ := h
    show EV Γ MX9_word d 201 [some (.ref v0), some (.int v1), some (.int v2), some (.int v3), none, some (.int s0)] [] σ12 Q
    refine EV.goto 224 (by decide) dX9_word_201 ?_
    exact EV.vret rfl dX9_word_224 h
theorem gX9_evaluate_0 {Γ : Gm} {d : Nat} {σ : AH} {Q : Oc → AH → Prop} {v0 : Nat} (h : hs σ v0 = some (7, 27) ∧ ∀ σ2 : AH, σ2 = setI σ v0 0 0 → ∀ σ5 : AH, σ5 = setI σ2 v0 24 0 → ∀ σ8 : AH, σ8 = setI σ5 v0 25 0 → ∀ σ11 : AH, σ11 = setI σ8 v0 26 (-1) → ∀ σ14 : AH, σ14 = setI σ11 v0 23 0 → CV Γ d MX9_sum [.ref v0] σ14 (fun σ17 => hs σ17 v0 = some (7, 27) ∧ ((0 ≤ (gi σ17 v0 26) → EV Γ MX9_evaluate d 51 [some (.ref v0)] [] σ17 Q) ∧ (¬ 0 ≤ (gi σ17 v0 26) → CI Γ d MX9_look [.ref v0] σ17 (fun r22 σ21 => ((r22 < 0 → EV Γ MX9_evaluate d 51 [some (.ref v0)] [] σ21 Q) ∧ (¬ r22 < 0 → hs σ21 v0 = some (7, 27) ∧ CV Γ d MX9_wrong [.ref v0, .int (gi σ21 v0 24)] σ21 (fun σ25 => EV Γ MX9_evaluate d 51 [some (.ref v0)] [] σ25 Q) (fun E σ25 => Q (.inr E) σ25)))) (fun E σ21 => Q (.inr E) σ21)))) (fun E σ17 => Q (.inr E) σ17)) : EV Γ MX9_evaluate d 0 [some (.ref v0)] [] σ Q := by
  refine EV.aload_n 1 rfl 0 rfl rfl dX9_evaluate_0 ?_
  refine EV.iconst 2 rfl dX9_evaluate_1 (v := 0) (by decide) ?_
  obtain ⟨w1, h⟩ := h
  refine EV.putI 5 rfl fw_X9_62 rfl (by decide) dX9_evaluate_2 w1 (EV.nm (fun σ2 e3 => ?_))
  have h := h σ2 e3
  have w4 := tr_hs (hs_setI_of e3) w1
  refine EV.aload_n 6 rfl 0 rfl rfl dX9_evaluate_5 ?_
  refine EV.iconst 7 rfl dX9_evaluate_6 (v := 0) (by decide) ?_
  refine EV.putI 10 rfl fw_X9_149 rfl (by decide) dX9_evaluate_7 w4 (EV.nm (fun σ5 e6 => ?_))
  have h := h σ5 e6
  have w7 := tr_hs (hs_setI_of e6) w4
  refine EV.aload_n 11 rfl 0 rfl rfl dX9_evaluate_10 ?_
  refine EV.iconst 12 rfl dX9_evaluate_11 (v := 0) (by decide) ?_
  refine EV.putI 15 rfl fw_X9_190 rfl (by decide) dX9_evaluate_12 w7 (EV.nm (fun σ8 e9 => ?_))
  have h := h σ8 e9
  have w10 := tr_hs (hs_setI_of e9) w7
  refine EV.aload_n 16 rfl 0 rfl rfl dX9_evaluate_15 ?_
  refine EV.iconst 17 rfl dX9_evaluate_16 (v := (-1)) (by decide) ?_
  refine EV.putI 20 rfl fw_X9_146 rfl (by decide) dX9_evaluate_17 w10 (EV.nm (fun σ11 e12 => ?_))
  have h := h σ11 e12
  have w13 := tr_hs (hs_setI_of e12) w10
  refine EV.aload_n 21 rfl 0 rfl rfl dX9_evaluate_20 ?_
  refine EV.iconst 22 rfl dX9_evaluate_21 (v := 0) (by decide) ?_
  refine EV.putI 25 rfl fw_X9_152 rfl (by decide) dX9_evaluate_22 w13 (EV.nm (fun σ14 e15 => ?_))
  have h := h σ14 e15
  have w16 := tr_hs (hs_setI_of e15) w13
  refine EV.aload_n 26 rfl 0 rfl rfl dX9_evaluate_25 ?_
  refine EV.cV rfl rfl lk_X9_193 rfl (vs := []) (st := []) rfl rfl (Nat.le_of_ble_eq_true rfl) dX9_evaluate_26 w16 h (fun v σ17 h => ?_)
  obtain ⟨rfl, h⟩ := h
  show EV Γ MX9_evaluate d 29 [some (.ref v0)] [] σ17 Q
  refine EV.aload_n 30 rfl 0 rfl rfl dX9_evaluate_29 ?_
  obtain ⟨w19, h⟩ := h
  refine EV.getI 33 rfl fl_X9_146 rfl dX9_evaluate_30 w19 ?_
  refine EV.if_ge 36 51 rfl (by decide) dX9_evaluate_33 (fun c20 => ?_) (fun c20 => ?_)
  · have h := h.1 c20
    exact h
  · have h := h.2 c20
    refine EV.aload_n 37 rfl 0 rfl rfl dX9_evaluate_36 ?_
    refine EV.cV rfl rfl lk_X9_158 rfl (vs := []) (st := []) rfl rfl (Nat.le_of_ble_eq_true rfl) dX9_evaluate_37 w19 h (fun v σ21 h => ?_)
    obtain ⟨r22, rfl, h⟩ := h
    show EV Γ MX9_evaluate d 40 [some (.ref v0)] [.int r22] σ21 Q
    refine EV.if_lt 43 51 rfl (by decide) dX9_evaluate_40 (fun c23 => ?_) (fun c23 => ?_)
    · have h := h.1 c23
      exact h
    · have h := h.2 c23
      refine EV.aload_n 44 rfl 0 rfl rfl dX9_evaluate_43 ?_
      refine EV.aload_n 45 rfl 0 rfl rfl dX9_evaluate_44 ?_
      obtain ⟨w24, h⟩ := h
      refine EV.getI 48 rfl fl_X9_149 rfl dX9_evaluate_45 w24 ?_
      refine EV.cV rfl rfl lk_X9_187 rfl (vs := [.int (gi σ21 v0 24)]) (st := []) rfl rfl (Nat.le_of_ble_eq_true rfl) dX9_evaluate_48 w24 h (fun v σ25 h => ?_)
      obtain ⟨rfl, h⟩ := h
      show EV Γ MX9_evaluate d 51 [some (.ref v0)] [] σ25 Q
      exact h
theorem eX9_evaluate {Γ : Gm} {d : Nat} {σ : AH} {Q : Oc → AH → Prop} {v0 : Nat} (h : hs σ v0 = some (7, 27) ∧ ∀ σ2 : AH, σ2 = setI σ v0 0 0 → ∀ σ5 : AH, σ5 = setI σ2 v0 24 0 → ∀ σ8 : AH, σ8 = setI σ5 v0 25 0 → ∀ σ11 : AH, σ11 = setI σ8 v0 26 (-1) → ∀ σ14 : AH, σ14 = setI σ11 v0 23 0 → CV Γ d MX9_sum [.ref v0] σ14 (fun σ17 => hs σ17 v0 = some (7, 27) ∧ ((0 ≤ (gi σ17 v0 26) → EV Γ MX9_evaluate d 51 [some (.ref v0)] [] σ17 Q) ∧ (¬ 0 ≤ (gi σ17 v0 26) → CI Γ d MX9_look [.ref v0] σ17 (fun r22 σ21 => ((r22 < 0 → EV Γ MX9_evaluate d 51 [some (.ref v0)] [] σ21 Q) ∧ (¬ r22 < 0 → hs σ21 v0 = some (7, 27) ∧ CV Γ d MX9_wrong [.ref v0, .int (gi σ21 v0 24)] σ21 (fun σ25 => EV Γ MX9_evaluate d 51 [some (.ref v0)] [] σ25 Q) (fun E σ25 => Q (.inr E) σ25)))) (fun E σ21 => Q (.inr E) σ21)))) (fun E σ17 => Q (.inr E) σ17)) : RUN Γ d MX9_evaluate [.ref v0] σ Q :=
  EV.enter [some (.ref v0)] rfl (by decide +kernel) (Nat.le_of_ble_eq_true rfl) rfl (gX9_evaluate_0 h)
theorem gX9_evaluate_51 {Γ : Gm} {d : Nat} {σ : AH} {Q : Oc → AH → Prop} {v0 : Nat} (h : hs σ v0 = some (7, 27) ∧ ∀ σ2 : AH, σ2 = setI σ v0 2 0 → ∀ σ5 : AH, σ5 = setI σ2 v0 5 (gi σ2 v0 26) → (((gi σ5 v0 26) < 0 → (((gi σ5 v0 6) ≠ 200 → CI Γ d MX9_run [.ref v0] σ5 (fun r11 σ10 => ((r11 = 0 → hs σ10 v0 = some (7, 27) ∧ CI Γ d MX9_fail [.ref v0, .int 3] σ10 (fun r14 σ13 => Q (.inl (some (.int r14))) σ13) (fun E σ13 => Q (.inr E) σ13)) ∧ (¬ r11 = 0 → hs σ10 v0 = some (7, 27) ∧ CI Γ d MX9_made [.ref v0] σ10 (fun r17 σ16 => Q (.inl (some (.int r17))) σ16) (fun E σ16 => Q (.inr E) σ16)))) (fun E σ10 => Q (.inr E) σ10)) ∧ ((gi σ5 v0 6) = 200 → CI Γ d MX9_fail [.ref v0, .int 2] σ5 (fun r20 σ19 => Q (.inl (some (.int r20))) σ19) (fun E σ19 => Q (.inr E) σ19)))) ∧ (¬ (gi σ5 v0 26) < 0 → CI Γ d MX9_fail [.ref v0, .int 1] σ5 (fun r22 σ21 => Q (.inl (some (.int r22))) σ21) (fun E σ21 => Q (.inr E) σ21)))) : EV Γ MX9_evaluate d 51 [some (.ref v0)] [] σ Q := by
  refine EV.aload_n 52 rfl 0 rfl rfl dX9_evaluate_51 ?_
  refine EV.iconst 53 rfl dX9_evaluate_52 (v := 0) (by decide) ?_
  obtain ⟨w1, h⟩ := h
  refine EV.putI 56 rfl fw_X9_136 rfl (by decide) dX9_evaluate_53 w1 (EV.nm (fun σ2 e3 => ?_))
  have h := h σ2 e3
  have w4 := tr_hs (hs_setI_of e3) w1
  refine EV.aload_n 57 rfl 0 rfl rfl dX9_evaluate_56 ?_
  refine EV.aload_n 58 rfl 0 rfl rfl dX9_evaluate_57 ?_
  refine EV.getI 61 rfl fl_X9_146 rfl dX9_evaluate_58 w4 ?_
  refine EV.putI 64 rfl fw_X9_16 rfl (by decide) dX9_evaluate_61 w4 (EV.nm (fun σ5 e6 => ?_))
  have h := h σ5 e6
  have w7 := tr_hs (hs_setI_of e6) w4
  refine EV.aload_n 65 rfl 0 rfl rfl dX9_evaluate_64 ?_
  refine EV.getI 68 rfl fl_X9_146 rfl dX9_evaluate_65 w7 ?_
  refine EV.if_lt 71 77 rfl (by decide) dX9_evaluate_68 (fun c8 => ?_) (fun c8 => ?_)
  · have h := h.1 c8
    refine EV.aload_n 78 rfl 0 rfl rfl dX9_evaluate_77 ?_
    refine EV.getI 81 rfl fl_X9_133 rfl dX9_evaluate_78 w7 ?_
    refine EV.sipush 84 rfl dX9_evaluate_81 (v := 200) (by decide) ?_
    refine EV.icmp_ne 87 93 rfl (by decide) dX9_evaluate_84 (fun c9 => ?_) (fun c9 => ?_)
    · have h := h.1 c9
      refine EV.aload_n 94 rfl 0 rfl rfl dX9_evaluate_93 ?_
      refine EV.cV rfl rfl lk_X9_200 rfl (vs := []) (st := []) rfl rfl (Nat.le_of_ble_eq_true rfl) dX9_evaluate_94 w7 h (fun v σ10 h => ?_)
      obtain ⟨r11, rfl, h⟩ := h
      show EV Γ MX9_evaluate d 97 [some (.ref v0)] [.int r11] σ10 Q
      refine EV.if_eq 100 107 rfl (by decide) dX9_evaluate_97 (fun c12 => ?_) (fun c12 => ?_)
      · have h := h.1 c12
        refine EV.aload_n 108 rfl 0 rfl rfl dX9_evaluate_107 ?_
        refine EV.iconst 109 rfl dX9_evaluate_108 (v := 3) (by decide) ?_
        obtain ⟨w15, h⟩ := h
        refine EV.cV rfl rfl lk_X9_139 rfl (vs := [.int 3]) (st := []) rfl rfl (Nat.le_of_ble_eq_true rfl) dX9_evaluate_109 w15 h (fun v σ13 h => ?_)
        obtain ⟨r14, rfl, h⟩ := h
        show EV Γ MX9_evaluate d 112 [some (.ref v0)] [.int r14] σ13 Q
        exact EV.iret rfl dX9_evaluate_112 h
      · have h := h.2 c12
        refine EV.aload_n 101 rfl 0 rfl rfl dX9_evaluate_100 ?_
        obtain ⟨w18, h⟩ := h
        refine EV.cV rfl rfl lk_X9_204 rfl (vs := []) (st := []) rfl rfl (Nat.le_of_ble_eq_true rfl) dX9_evaluate_101 w18 h (fun v σ16 h => ?_)
        obtain ⟨r17, rfl, h⟩ := h
        show EV Γ MX9_evaluate d 104 [some (.ref v0)] [.int r17] σ16 Q
        refine EV.goto 112 (by decide) dX9_evaluate_104 ?_
        exact EV.iret rfl dX9_evaluate_112 h
    · have h := h.2 c9
      refine EV.aload_n 88 rfl 0 rfl rfl dX9_evaluate_87 ?_
      refine EV.iconst 89 rfl dX9_evaluate_88 (v := 2) (by decide) ?_
      refine EV.cV rfl rfl lk_X9_139 rfl (vs := [.int 2]) (st := []) rfl rfl (Nat.le_of_ble_eq_true rfl) dX9_evaluate_89 w7 h (fun v σ19 h => ?_)
      obtain ⟨r20, rfl, h⟩ := h
      show EV Γ MX9_evaluate d 92 [some (.ref v0)] [.int r20] σ19 Q
      exact EV.iret rfl dX9_evaluate_92 h
  · have h := h.2 c8
    refine EV.aload_n 72 rfl 0 rfl rfl dX9_evaluate_71 ?_
    refine EV.iconst 73 rfl dX9_evaluate_72 (v := 1) (by decide) ?_
    refine EV.cV rfl rfl lk_X9_139 rfl (vs := [.int 1]) (st := []) rfl rfl (Nat.le_of_ble_eq_true rfl) dX9_evaluate_73 w7 h (fun v σ21 h => ?_)
    obtain ⟨r22, rfl, h⟩ := h
    show EV Γ MX9_evaluate d 76 [some (.ref v0)] [.int r22] σ21 Q
    exact EV.iret rfl dX9_evaluate_76 h
theorem gX9_run_0 {Γ : Gm} {d : Nat} {σ : AH} {Q : Oc → AH → Prop} {v0 : Nat} (h : EV Γ MX9_run d 4 [some (.ref v0), some (.int (-1)), some (.int 0), none] [] σ Q) : EV Γ MX9_run d 0 [some (.ref v0), none, none, none] [] σ Q := by
  refine EV.iconst 1 rfl dX9_run_0 (v := (-1)) (by decide) ?_
  refine EV.istore_n 2 rfl 1 [some (.ref v0), some (.int (-1)), none, none] rfl (by decide) rfl dX9_run_1 ?_
  refine EV.iconst 3 rfl dX9_run_2 (v := 0) (by decide) ?_
  refine EV.istore_n 4 rfl 2 [some (.ref v0), some (.int (-1)), some (.int 0), none] rfl (by decide) rfl dX9_run_3 ?_
  exact h
theorem eX9_run {Γ : Gm} {d : Nat} {σ : AH} {Q : Oc → AH → Prop} {v0 : Nat} (h : EV Γ MX9_run d 4 [some (.ref v0), some (.int (-1)), some (.int 0), none] [] σ Q) : RUN Γ d MX9_run [.ref v0] σ Q :=
  EV.enter [some (.ref v0), none, none, none] rfl (by decide +kernel) (Nat.le_of_ble_eq_true rfl) rfl (gX9_run_0 h)
theorem gX9_run_4 {Γ : Gm} {d : Nat} {σ : AH} {Q : Oc → AH → Prop} {v0 : Nat} {v1 : Int32} {v2 : Int32} (h : hs σ v0 = some (7, 27) ∧ (((gi σ v0 23) ≤ v2 → Q (.inl (some (.int 1))) σ) ∧ (¬ (gi σ v0 23) ≤ v2 → ∃ t3 : Nat, gr σ v0 22 = some t3 ∧ ∃ n6 : Nat, hs σ t3 = some (22, n6) ∧ ∃ j7 : Nat, IX v2 n6 j7 ∧ (((gi σ t3 j7) < 99 → (((gi σ t3 j7) < 10 → (((gi σ t3 j7) = 5 → EV Γ MX9_run d 107 [some (.ref v0), some (.int (v1 + (-1))), some (.int v2), some (.int (gi σ t3 j7))] [] σ Q) ∧ (¬ (gi σ t3 j7) = 5 → (((gi σ t3 j7) ≠ 6 → EV Γ MX9_run d 122 [some (.ref v0), some (.int (v1 + (-1))), some (.int v2), some (.int (gi σ t3 j7))] [] σ Q) ∧ ((gi σ t3 j7) = 6 → EV Γ MX9_run d 107 [some (.ref v0), some (.int (v1 + (-1))), some (.int v2), some (.int (gi σ t3 j7))] [] σ Q))))) ∧ (¬ (gi σ t3 j7) < 10 → CV Γ d MX9_operate [.ref v0, .int (gi σ t3 j7), .int v1, .int v1] σ (fun σ13 => EV Γ MX9_run d 4 [some (.ref v0), some (.int v1), some (.int (v2 + 1)), none] [] σ13 Q) (fun E σ13 => Q (.inr E) σ13)))) ∧ (¬ (gi σ t3 j7) < 99 → ∃ t15 : Nat, gr σ v0 15 = some t15 ∧ CV Γ d MX9_clear [.ref t15, .int (v1 + 1)] σ (fun σ17 => (((gi σ t3 j7) < 10000 → (((gi σ t3 j7) < 100 → EV Γ MX9_run d 4 [some (.ref v0), some (.int (v1 + 1)), some (.int (v2 + 1)), none] [] σ17 Q) ∧ (¬ (gi σ t3 j7) < 100 → hs σ17 v0 = some (7, 27) ∧ ∃ t22 : Nat, gr σ17 v0 15 = some t22 ∧ CV Γ d MX9_put [.ref t22, .int (v1 + 1), .int ((gi σ t3 j7) - 100)] σ17 (fun σ24 => EV Γ MX9_run d 4 [some (.ref v0), some (.int (v1 + 1)), some (.int (v2 + 1)), none] [] σ24 Q) (fun _ _ => False)))) ∧ (¬ (gi σ t3 j7) < 10000 → hs σ17 v0 = some (7, 27) ∧ CV Γ d MX9_load [.ref v0, .int ((gi σ t3 j7) - 10000), .int (v1 + 1)] σ17 (fun σ26 => EV Γ MX9_run d 4 [some (.ref v0), some (.int (v1 + 1)), some (.int (v2 + 1)), none] [] σ26 Q) (fun E σ26 => Q (.inr E) σ26)))) (fun _ _ => False)))))) : EV Γ MX9_run d 4 [some (.ref v0), some (.int v1), some (.int v2), none] [] σ Q := by
  refine EV.iload_n 5 rfl 2 rfl rfl dX9_run_4 ?_
  refine EV.aload_n 6 rfl 0 rfl rfl dX9_run_5 ?_
  obtain ⟨w1, h⟩ := h
  refine EV.getI 9 rfl fl_X9_152 rfl dX9_run_6 w1 ?_
  refine EV.icmp_ge 12 137 rfl (by decide) dX9_run_9 (fun c2 => ?_) (fun c2 => ?_)
  · have h := h.1 c2
    refine EV.iconst 138 rfl dX9_run_137 (v := 1) (by decide) ?_
    exact EV.zret rfl rfl dX9_run_138 h
  · have h := h.2 c2
    refine EV.aload_n 13 rfl 0 rfl rfl dX9_run_12 ?_
    obtain ⟨t3, g4, h⟩ := h
    refine EV.getR 16 rfl fl_X9_59 rfl dX9_run_13 w1 g4 ?_
    refine EV.iload_n 17 rfl 2 rfl rfl dX9_run_16 ?_
    obtain ⟨n6, w5, h⟩ := h
    obtain ⟨j7, x8, h⟩ := h
    refine EV.iald 18 rfl dX9_run_17 w5 x8 ?_
    refine EV.istore_n 19 rfl 3 [some (.ref v0), some (.int v1), some (.int v2), some (.int (gi σ t3 j7))] rfl (by decide) rfl dX9_run_18 ?_
    refine EV.iload_n 20 rfl 3 rfl rfl dX9_run_19 ?_
    refine EV.bipush 22 rfl dX9_run_20 (v := 99) (by decide) ?_
    refine EV.icmp_lt 25 77 rfl (by decide) dX9_run_22 (fun c9 => ?_) (fun c9 => ?_)
    · have h := h.1 c9
      refine EV.iload_n 78 rfl 3 rfl rfl dX9_run_77 ?_
      refine EV.bipush 80 rfl dX9_run_78 (v := 10) (by decide) ?_
      refine EV.icmp_lt 83 93 rfl (by decide) dX9_run_80 (fun c10 => ?_) (fun c10 => ?_)
      · have h := h.1 c10
        refine EV.iinc 96 rfl [some (.ref v0), some (.int (v1 + (-1))), some (.int v2), some (.int (gi σ t3 j7))] (v := (-1)) (by decide) (by decide) rfl rfl dX9_run_93 ?_
        refine EV.iload_n 97 rfl 3 rfl rfl dX9_run_96 ?_
        refine EV.iconst 98 rfl dX9_run_97 (v := 5) (by decide) ?_
        refine EV.icmp_eq 101 107 rfl (by decide) dX9_run_98 (fun c11 => ?_) (fun c11 => ?_)
        · have h := h.1 c11
          exact h
        · have h := h.2 c11
          refine EV.iload_n 102 rfl 3 rfl rfl dX9_run_101 ?_
          refine EV.bipush 104 rfl dX9_run_102 (v := 6) (by decide) ?_
          refine EV.icmp_ne 107 122 rfl (by decide) dX9_run_104 (fun c12 => ?_) (fun c12 => ?_)
          · have h := h.1 c12
            exact h
          · have h := h.2 c12
            exact h
      · have h := h.2 c10
        refine EV.aload_n 84 rfl 0 rfl rfl dX9_run_83 ?_
        refine EV.iload_n 85 rfl 3 rfl rfl dX9_run_84 ?_
        refine EV.iload_n 86 rfl 1 rfl rfl dX9_run_85 ?_
        refine EV.iload_n 87 rfl 1 rfl rfl dX9_run_86 ?_
        refine EV.cV rfl rfl lk_X9_210 rfl (vs := [.int (gi σ t3 j7), .int v1, .int v1]) (st := []) rfl rfl (Nat.le_of_ble_eq_true rfl) dX9_run_87 w1 h (fun v σ13 h => ?_)
        obtain ⟨rfl, h⟩ := h
        show EV Γ MX9_run d 90 [some (.ref v0), some (.int v1), some (.int v2), some (.int (gi σ t3 j7))] [] σ13 Q
        refine EV.goto 131 (by decide) dX9_run_90 ?_
        refine EV.iinc 134 rfl [some (.ref v0), some (.int v1), some (.int (v2 + 1)), some (.int (gi σ t3 j7))] (v := 1) (by decide) (by decide) rfl rfl dX9_run_131 ?_
        refine EV.goto 4 (by decide) dX9_run_134 ?_
        refine EV.mask [true, true, true, false] (L' := [some (.ref v0), some (.int v1), some (.int (v2 + 1)), none]) rfl ?_
        exact h
    · have h := h.2 c9
      refine EV.iinc 28 rfl [some (.ref v0), some (.int (v1 + 1)), some (.int v2), some (.int (gi σ t3 j7))] (v := 1) (by decide) (by decide) rfl rfl dX9_run_25 ?_
      refine EV.aload_n 29 rfl 0 rfl rfl dX9_run_28 ?_
      obtain ⟨t15, g16, h⟩ := h
      refine EV.getR 32 rfl fl_X9_41 rfl dX9_run_29 w1 g16 ?_
      refine EV.iload_n 33 rfl 1 rfl rfl dX9_run_32 ?_
      refine EV.cS rfl lk_X9_69 rfl (vs := [.ref t15, .int (v1 + 1)]) (st := []) rfl rfl (Nat.le_of_ble_eq_true rfl) dX9_run_33 h (fun v σ17 h => ?_)
      obtain ⟨rfl, h⟩ := h
      show EV Γ MX9_run d 36 [some (.ref v0), some (.int (v1 + 1)), some (.int v2), some (.int (gi σ t3 j7))] [] σ17 Q
      refine EV.iload_n 37 rfl 3 rfl rfl dX9_run_36 ?_
      refine EV.sipush 40 rfl dX9_run_37 (v := 10000) (by decide) ?_
      refine EV.icmp_lt 43 56 rfl (by decide) dX9_run_40 (fun c19 => ?_) (fun c19 => ?_)
      · have h := h.1 c19
        refine EV.iload_n 57 rfl 3 rfl rfl dX9_run_56 ?_
        refine EV.bipush 59 rfl dX9_run_57 (v := 100) (by decide) ?_
        refine EV.icmp_lt 62 131 rfl (by decide) dX9_run_59 (fun c20 => ?_) (fun c20 => ?_)
        · have h := h.1 c20
          refine EV.iinc 134 rfl [some (.ref v0), some (.int (v1 + 1)), some (.int (v2 + 1)), some (.int (gi σ t3 j7))] (v := 1) (by decide) (by decide) rfl rfl dX9_run_131 ?_
          refine EV.goto 4 (by decide) dX9_run_134 ?_
          refine EV.mask [true, true, true, false] (L' := [some (.ref v0), some (.int (v1 + 1)), some (.int (v2 + 1)), none]) rfl ?_
          exact h
        · have h := h.2 c20
          refine EV.aload_n 63 rfl 0 rfl rfl dX9_run_62 ?_
          obtain ⟨w21, h⟩ := h
          obtain ⟨t22, g23, h⟩ := h
          refine EV.getR 66 rfl fl_X9_41 rfl dX9_run_63 w21 g23 ?_
          refine EV.iload_n 67 rfl 1 rfl rfl dX9_run_66 ?_
          refine EV.iload_n 68 rfl 3 rfl rfl dX9_run_67 ?_
          refine EV.bipush 70 rfl dX9_run_68 (v := 100) (by decide) ?_
          refine EV.isub 71 rfl dX9_run_70 ?_
          refine EV.cS rfl lk_X9_98 rfl (vs := [.ref t22, .int (v1 + 1), .int ((gi σ t3 j7) - 100)]) (st := []) rfl rfl (Nat.le_of_ble_eq_true rfl) dX9_run_71 h (fun v σ24 h => ?_)
          obtain ⟨rfl, h⟩ := h
          show EV Γ MX9_run d 74 [some (.ref v0), some (.int (v1 + 1)), some (.int v2), some (.int (gi σ t3 j7))] [] σ24 Q
          refine EV.goto 131 (by decide) dX9_run_74 ?_
          refine EV.iinc 134 rfl [some (.ref v0), some (.int (v1 + 1)), some (.int (v2 + 1)), some (.int (gi σ t3 j7))] (v := 1) (by decide) (by decide) rfl rfl dX9_run_131 ?_
          refine EV.goto 4 (by decide) dX9_run_134 ?_
          refine EV.mask [true, true, true, false] (L' := [some (.ref v0), some (.int (v1 + 1)), some (.int (v2 + 1)), none]) rfl ?_
          exact h
      · have h := h.2 c19
        refine EV.aload_n 44 rfl 0 rfl rfl dX9_run_43 ?_
        refine EV.iload_n 45 rfl 3 rfl rfl dX9_run_44 ?_
        refine EV.sipush 48 rfl dX9_run_45 (v := 10000) (by decide) ?_
        refine EV.isub 49 rfl dX9_run_48 ?_
        refine EV.iload_n 50 rfl 1 rfl rfl dX9_run_49 ?_
        obtain ⟨w28, h⟩ := h
        refine EV.cV rfl rfl lk_X9_207 rfl (vs := [.int ((gi σ t3 j7) - 10000), .int (v1 + 1)]) (st := []) rfl rfl (Nat.le_of_ble_eq_true rfl) dX9_run_50 w28 h (fun v σ26 h => ?_)
        obtain ⟨rfl, h⟩ := h
        show EV Γ MX9_run d 53 [some (.ref v0), some (.int (v1 + 1)), some (.int v2), some (.int (gi σ t3 j7))] [] σ26 Q
        refine EV.goto 131 (by decide) dX9_run_53 ?_
        refine EV.iinc 134 rfl [some (.ref v0), some (.int (v1 + 1)), some (.int (v2 + 1)), some (.int (gi σ t3 j7))] (v := 1) (by decide) (by decide) rfl rfl dX9_run_131 ?_
        refine EV.goto 4 (by decide) dX9_run_134 ?_
        refine EV.mask [true, true, true, false] (L' := [some (.ref v0), some (.int (v1 + 1)), some (.int (v2 + 1)), none]) rfl ?_
        exact h
theorem gX9_run_107 {Γ : Gm} {d : Nat} {σ : AH} {Q : Oc → AH → Prop} {v0 : Nat} {v1 : Int32} {v2 : Int32} {v3 : Int32} (h : hs σ v0 = some (7, 27) ∧ ∃ t2 : Nat, gr σ v0 15 = some t2 ∧ CI Γ d MX9_many [.ref t2, .int (v1 + 1)] σ (fun r5 σ4 => ((r5 ≠ 0 → EV Γ MX9_run d 122 [some (.ref v0), some (.int v1), some (.int v2), some (.int v3)] [] σ4 Q) ∧ (r5 = 0 → Q (.inl (some (.int 0))) σ4))) (fun _ _ => False)) : EV Γ MX9_run d 107 [some (.ref v0), some (.int v1), some (.int v2), some (.int v3)] [] σ Q := by
  refine EV.aload_n 108 rfl 0 rfl rfl dX9_run_107 ?_
  obtain ⟨w1, h⟩ := h
  obtain ⟨t2, g3, h⟩ := h
  refine EV.getR 111 rfl fl_X9_41 rfl dX9_run_108 w1 g3 ?_
  refine EV.iload_n 112 rfl 1 rfl rfl dX9_run_111 ?_
  refine EV.iconst 113 rfl dX9_run_112 (v := 1) (by decide) ?_
  refine EV.iadd 114 rfl dX9_run_113 ?_
  refine EV.cS rfl lk_X9_213 rfl (vs := [.ref t2, .int (v1 + 1)]) (st := []) rfl rfl (Nat.le_of_ble_eq_true rfl) dX9_run_114 h (fun v σ4 h => ?_)
  obtain ⟨r5, rfl, h⟩ := h
  show EV Γ MX9_run d 117 [some (.ref v0), some (.int v1), some (.int v2), some (.int v3)] [.int r5] σ4 Q
  refine EV.if_ne 120 122 rfl (by decide) dX9_run_117 (fun c6 => ?_) (fun c6 => ?_)
  · have h := h.1 c6
    exact h
  · have h := h.2 c6
    refine EV.iconst 121 rfl dX9_run_120 (v := 0) (by decide) ?_
    exact EV.zret rfl rfl dX9_run_121 h
theorem gX9_run_122 {Γ : Gm} {d : Nat} {σ : AH} {Q : Oc → AH → Prop} {v0 : Nat} {v1 : Int32} {v2 : Int32} {v3 : Int32} (h : hs σ v0 = some (7, 27) ∧ CV Γ d MX9_operate [.ref v0, .int v3, .int v1, .int (v1 + 1)] σ (fun σ1 => EV Γ MX9_run d 4 [some (.ref v0), some (.int v1), some (.int (v2 + 1)), none] [] σ1 Q) (fun E σ1 => Q (.inr E) σ1)) : EV Γ MX9_run d 122 [some (.ref v0), some (.int v1), some (.int v2), some (.int v3)] [] σ Q := by
  refine EV.aload_n 123 rfl 0 rfl rfl dX9_run_122 ?_
  refine EV.iload_n 124 rfl 3 rfl rfl dX9_run_123 ?_
  refine EV.iload_n 125 rfl 1 rfl rfl dX9_run_124 ?_
  refine EV.iload_n 126 rfl 1 rfl rfl dX9_run_125 ?_
  refine EV.iconst 127 rfl dX9_run_126 (v := 1) (by decide) ?_
  refine EV.iadd 128 rfl dX9_run_127 ?_
  obtain ⟨w3, h⟩ := h
  refine EV.cV rfl rfl lk_X9_210 rfl (vs := [.int v3, .int v1, .int (v1 + 1)]) (st := []) rfl rfl (Nat.le_of_ble_eq_true rfl) dX9_run_128 w3 h (fun v σ1 h => ?_)
  obtain ⟨rfl, h⟩ := h
  show EV Γ MX9_run d 131 [some (.ref v0), some (.int v1), some (.int v2), some (.int v3)] [] σ1 Q
  refine EV.iinc 134 rfl [some (.ref v0), some (.int v1), some (.int (v2 + 1)), some (.int v3)] (v := 1) (by decide) (by decide) rfl rfl dX9_run_131 ?_
  refine EV.goto 4 (by decide) dX9_run_134 ?_
  refine EV.mask [true, true, true, false] (L' := [some (.ref v0), some (.int v1), some (.int (v2 + 1)), none]) rfl ?_
  exact h
theorem gX9_load_0 {Γ : Gm} {d : Nat} {σ : AH} {Q : Oc → AH → Prop} {v0 : Nat} {v1 : Int32} {v2 : Int32} (h : EV Γ MX9_load d 2 [some (.ref v0), some (.int v1), some (.int v2), some (.int 0)] [] σ Q) : EV Γ MX9_load d 0 [some (.ref v0), some (.int v1), some (.int v2), none] [] σ Q := by
  refine EV.iconst 1 rfl dX9_load_0 (v := 0) (by decide) ?_
  refine EV.istore_n 2 rfl 3 [some (.ref v0), some (.int v1), some (.int v2), some (.int 0)] rfl (by decide) rfl dX9_load_1 ?_
  exact h
theorem eX9_load {Γ : Gm} {d : Nat} {σ : AH} {Q : Oc → AH → Prop} {v0 : Nat} {v1 : Int32} {v2 : Int32} (h : EV Γ MX9_load d 2 [some (.ref v0), some (.int v1), some (.int v2), some (.int 0)] [] σ Q) : RUN Γ d MX9_load [.ref v0, .int v1, .int v2] σ Q :=
  EV.enter [some (.ref v0), some (.int v1), some (.int v2), none] rfl (by decide +kernel) (Nat.le_of_ble_eq_true rfl) rfl (gX9_load_0 h)
theorem gX9_load_2 {Γ : Gm} {d : Nat} {σ : AH} {Q : Oc → AH → Prop} {v0 : Nat} {v1 : Int32} {v2 : Int32} {v3 : Int32} (h : ((64 ≤ v3 → Q (.inl none) σ) ∧ (¬ 64 ≤ v3 → hs σ v0 = some (7, 27) ∧ ∃ t3 : Nat, gr σ v0 15 = some t3 ∧ ∃ t5 : Nat, gr σ v0 9 = some t5 ∧ ∃ n8 : Nat, hs σ t5 = some (23, n8) ∧ ∃ j9 : Nat, IX (((64 : Int32) * v1) + v3) n8 j9 ∧ ∃ n12 : Nat, hs σ t3 = some (23, n12) ∧ ∃ j13 : Nat, IX (((64 : Int32) * v2) + v3) n12 j13 ∧ ∀ σ15 : AH, σ15 = setJ σ t3 j13 (gj σ t5 j9) → EV Γ MX9_load d 2 [some (.ref v0), some (.int v1), some (.int v2), some (.int (v3 + 1))] [] σ15 Q))) : EV Γ MX9_load d 2 [some (.ref v0), some (.int v1), some (.int v2), some (.int v3)] [] σ Q := by
  refine EV.iload_n 3 rfl 3 rfl rfl dX9_load_2 ?_
  refine EV.bipush 5 rfl dX9_load_3 (v := 64) (by decide) ?_
  refine EV.icmp_ge 8 36 rfl (by decide) dX9_load_5 (fun c1 => ?_) (fun c1 => ?_)
  · have h := h.1 c1
    exact EV.vret rfl dX9_load_36 h
  · have h := h.2 c1
    refine EV.aload_n 9 rfl 0 rfl rfl dX9_load_8 ?_
    obtain ⟨w2, h⟩ := h
    obtain ⟨t3, g4, h⟩ := h
    refine EV.getR 12 rfl fl_X9_41 rfl dX9_load_9 w2 g4 ?_
    refine EV.bipush 14 rfl dX9_load_12 (v := 64) (by decide) ?_
    refine EV.iload_n 15 rfl 2 rfl rfl dX9_load_14 ?_
    refine EV.imul 16 rfl dX9_load_15 ?_
    refine EV.iload_n 17 rfl 3 rfl rfl dX9_load_16 ?_
    refine EV.iadd 18 rfl dX9_load_17 ?_
    refine EV.aload_n 19 rfl 0 rfl rfl dX9_load_18 ?_
    obtain ⟨t5, g6, h⟩ := h
    refine EV.getR 22 rfl fl_X9_24 rfl dX9_load_19 w2 g6 ?_
    refine EV.bipush 24 rfl dX9_load_22 (v := 64) (by decide) ?_
    refine EV.iload_n 25 rfl 1 rfl rfl dX9_load_24 ?_
    refine EV.imul 26 rfl dX9_load_25 ?_
    refine EV.iload_n 27 rfl 3 rfl rfl dX9_load_26 ?_
    refine EV.iadd 28 rfl dX9_load_27 ?_
    obtain ⟨n8, w7, h⟩ := h
    obtain ⟨j9, x10, h⟩ := h
    refine EV.lald 29 rfl dX9_load_28 w7 x10 ?_
    obtain ⟨n12, w11, h⟩ := h
    obtain ⟨j13, x14, h⟩ := h
    refine EV.last 30 rfl dX9_load_29 w11 x14 (EV.nm (fun σ15 e16 => ?_))
    have h := h σ15 e16
    have w17 := tr_hs (hs_setJ_of e16) w2
    have w18 := tr_hs (hs_setJ_of e16) w7
    have w19 := tr_hs (hs_setJ_of e16) w11
    have g20 := tr_gr (gr_setJ_of e16) g4
    have g21 := tr_gr (gr_setJ_of e16) g6
    refine EV.iinc 33 rfl [some (.ref v0), some (.int v1), some (.int v2), some (.int (v3 + 1))] (v := 1) (by decide) (by decide) rfl rfl dX9_load_30 ?_
    refine EV.goto 2 (by decide) dX9_load_33 ?_
    exact h
theorem gX9_made_0 {Γ : Gm} {d : Nat} {σ : AH} {Q : Oc → AH → Prop} {v0 : Nat} (h : EV Γ MX9_made d 2 [some (.ref v0), some (.int 0)] [] σ Q) : EV Γ MX9_made d 0 [some (.ref v0), none] [] σ Q := by
  refine EV.iconst 1 rfl dX9_made_0 (v := 0) (by decide) ?_
  refine EV.istore_n 2 rfl 1 [some (.ref v0), some (.int 0)] rfl (by decide) rfl dX9_made_1 ?_
  exact h
theorem eX9_made {Γ : Gm} {d : Nat} {σ : AH} {Q : Oc → AH → Prop} {v0 : Nat} (h : EV Γ MX9_made d 2 [some (.ref v0), some (.int 0)] [] σ Q) : RUN Γ d MX9_made [.ref v0] σ Q :=
  EV.enter [some (.ref v0), none] rfl (by decide +kernel) (Nat.le_of_ble_eq_true rfl) rfl (gX9_made_0 h)
theorem gX9_made_2 {Γ : Gm} {d : Nat} {σ : AH} {Q : Oc → AH → Prop} {v0 : Nat} {v1 : Int32} (h : ((64 ≤ v1 → hs σ v0 = some (7, 27) ∧ ∀ σ3 : AH, σ3 = setI σ v0 6 ((gi σ v0 6) + 1) → ∀ σ6 : AH, σ6 = setI σ3 v0 7 ((gi σ3 v0 7) + 1) → Q (.inl (some (.int ((gi σ6 v0 6) - 1)))) σ6) ∧ (¬ 64 ≤ v1 → hs σ v0 = some (7, 27) ∧ ∃ t10 : Nat, gr σ v0 9 = some t10 ∧ ∃ t12 : Nat, gr σ v0 15 = some t12 ∧ ∃ n15 : Nat, hs σ t12 = some (23, n15) ∧ ∃ j16 : Nat, IX v1 n15 j16 ∧ ∃ n19 : Nat, hs σ t10 = some (23, n19) ∧ ∃ j20 : Nat, IX (((64 : Int32) * (gi σ v0 6)) + v1) n19 j20 ∧ ∀ σ22 : AH, σ22 = setJ σ t10 j20 (gj σ t12 j16) → EV Γ MX9_made d 2 [some (.ref v0), some (.int (v1 + 1))] [] σ22 Q))) : EV Γ MX9_made d 2 [some (.ref v0), some (.int v1)] [] σ Q := by
  refine EV.iload_n 3 rfl 1 rfl rfl dX9_made_2 ?_
  refine EV.bipush 5 rfl dX9_made_3 (v := 64) (by decide) ?_
  refine EV.icmp_ge 8 34 rfl (by decide) dX9_made_5 (fun c1 => ?_) (fun c1 => ?_)
  · have h := h.1 c1
    refine EV.aload_n 35 rfl 0 rfl rfl dX9_made_34 ?_
    refine EV.dup 36 rfl dX9_made_35 rfl ?_
    obtain ⟨w2, h⟩ := h
    refine EV.getI 39 rfl fl_X9_133 rfl dX9_made_36 w2 ?_
    refine EV.iconst 40 rfl dX9_made_39 (v := 1) (by decide) ?_
    refine EV.iadd 41 rfl dX9_made_40 ?_
    refine EV.putI 44 rfl fw_X9_133 rfl (by decide) dX9_made_41 w2 (EV.nm (fun σ3 e4 => ?_))
    have h := h σ3 e4
    have w5 := tr_hs (hs_setI_of e4) w2
    refine EV.aload_n 45 rfl 0 rfl rfl dX9_made_44 ?_
    refine EV.dup 46 rfl dX9_made_45 rfl ?_
    refine EV.getI 49 rfl fl_X9_217 rfl dX9_made_46 w5 ?_
    refine EV.iconst 50 rfl dX9_made_49 (v := 1) (by decide) ?_
    refine EV.iadd 51 rfl dX9_made_50 ?_
    refine EV.putI 54 rfl fw_X9_217 rfl (by decide) dX9_made_51 w5 (EV.nm (fun σ6 e7 => ?_))
    have h := h σ6 e7
    have w8 := tr_hs (hs_setI_of e7) w5
    refine EV.aload_n 55 rfl 0 rfl rfl dX9_made_54 ?_
    refine EV.getI 58 rfl fl_X9_133 rfl dX9_made_55 w8 ?_
    refine EV.iconst 59 rfl dX9_made_58 (v := 1) (by decide) ?_
    refine EV.isub 60 rfl dX9_made_59 ?_
    exact EV.iret rfl dX9_made_60 h
  · have h := h.2 c1
    refine EV.aload_n 9 rfl 0 rfl rfl dX9_made_8 ?_
    obtain ⟨w9, h⟩ := h
    obtain ⟨t10, g11, h⟩ := h
    refine EV.getR 12 rfl fl_X9_24 rfl dX9_made_9 w9 g11 ?_
    refine EV.bipush 14 rfl dX9_made_12 (v := 64) (by decide) ?_
    refine EV.aload_n 15 rfl 0 rfl rfl dX9_made_14 ?_
    refine EV.getI 18 rfl fl_X9_133 rfl dX9_made_15 w9 ?_
    refine EV.imul 19 rfl dX9_made_18 ?_
    refine EV.iload_n 20 rfl 1 rfl rfl dX9_made_19 ?_
    refine EV.iadd 21 rfl dX9_made_20 ?_
    refine EV.aload_n 22 rfl 0 rfl rfl dX9_made_21 ?_
    obtain ⟨t12, g13, h⟩ := h
    refine EV.getR 25 rfl fl_X9_41 rfl dX9_made_22 w9 g13 ?_
    refine EV.iload_n 26 rfl 1 rfl rfl dX9_made_25 ?_
    obtain ⟨n15, w14, h⟩ := h
    obtain ⟨j16, x17, h⟩ := h
    refine EV.lald 27 rfl dX9_made_26 w14 x17 ?_
    obtain ⟨n19, w18, h⟩ := h
    obtain ⟨j20, x21, h⟩ := h
    refine EV.last 28 rfl dX9_made_27 w18 x21 (EV.nm (fun σ22 e23 => ?_))
    have h := h σ22 e23
    have w24 := tr_hs (hs_setJ_of e23) w9
    have w25 := tr_hs (hs_setJ_of e23) w14
    have w26 := tr_hs (hs_setJ_of e23) w18
    have g27 := tr_gr (gr_setJ_of e23) g11
    have g28 := tr_gr (gr_setJ_of e23) g13
    refine EV.iinc 31 rfl [some (.ref v0), some (.int (v1 + 1))] (v := 1) (by decide) (by decide) rfl rfl dX9_made_28 ?_
    refine EV.goto 2 (by decide) dX9_made_31 ?_
    exact h
theorem gX9_errorPosition_0 {Γ : Gm} {d : Nat} {σ : AH} {Q : Oc → AH → Prop} {v0 : Nat} (h : hs σ v0 = some (7, 27) ∧ ∀ σ2 : AH, σ2 = setI σ v0 0 0 → Q (.inl (some (.int (gi σ2 v0 5)))) σ2) : EV Γ MX9_errorPosition d 0 [some (.ref v0)] [] σ Q := by
  refine EV.aload_n 1 rfl 0 rfl rfl dX9_errorPosition_0 ?_
  refine EV.iconst 2 rfl dX9_errorPosition_1 (v := 0) (by decide) ?_
  obtain ⟨w1, h⟩ := h
  refine EV.putI 5 rfl fw_X9_62 rfl (by decide) dX9_errorPosition_2 w1 (EV.nm (fun σ2 e3 => ?_))
  have h := h σ2 e3
  have w4 := tr_hs (hs_setI_of e3) w1
  refine EV.aload_n 6 rfl 0 rfl rfl dX9_errorPosition_5 ?_
  refine EV.getI 9 rfl fl_X9_16 rfl dX9_errorPosition_6 w4 ?_
  exact EV.iret rfl dX9_errorPosition_9 h
theorem eX9_errorPosition {Γ : Gm} {d : Nat} {σ : AH} {Q : Oc → AH → Prop} {v0 : Nat} (h : hs σ v0 = some (7, 27) ∧ ∀ σ2 : AH, σ2 = setI σ v0 0 0 → Q (.inl (some (.int (gi σ2 v0 5)))) σ2) : RUN Γ d MX9_errorPosition [.ref v0] σ Q :=
  EV.enter [some (.ref v0)] rfl (by decide +kernel) (Nat.le_of_ble_eq_true rfl) rfl (gX9_errorPosition_0 h)
theorem gX9_look__0 {Γ : Gm} {d : Nat} {σ : AH} {Q : Oc → AH → Prop} {v0 : Nat} {v1 : Int32} (h : ((v1 < 0 → Q (.inl (some (.int 1))) σ) ∧ (¬ v1 < 0 → hs σ v0 = some (7, 27) ∧ ((v1 < (gi σ v0 6) → ∃ t4 : Nat, gr σ v0 8 = some t4 ∧ ∃ n7 : Nat, hs σ t4 = some (21, n7) ∧ ∃ j8 : Nat, IX v1 n7 j8 ∧ (((gi σ t4 j8) = 0 → Q (.inl (some (.int 0))) σ) ∧ (¬ (gi σ t4 j8) = 0 → Q (.inl (some (.int 2))) σ))) ∧ (¬ v1 < (gi σ v0 6) → Q (.inl (some (.int 1))) σ))))) : EV Γ MX9_look_ d 0 [some (.ref v0), some (.int v1)] [] σ Q := by
  refine EV.iload_n 1 rfl 1 rfl rfl dX9_look__0 ?_
  refine EV.if_lt 4 12 rfl (by decide) dX9_look__1 (fun c1 => ?_) (fun c1 => ?_)
  · have h := h.1 c1
    refine EV.iconst 13 rfl dX9_look__12 (v := 1) (by decide) ?_
    refine EV.goto 30 (by decide) dX9_look__13 ?_
    exact EV.iret rfl dX9_look__30 h
  · have h := h.2 c1
    refine EV.iload_n 5 rfl 1 rfl rfl dX9_look__4 ?_
    refine EV.aload_n 6 rfl 0 rfl rfl dX9_look__5 ?_
    obtain ⟨w2, h⟩ := h
    refine EV.getI 9 rfl fl_X9_133 rfl dX9_look__6 w2 ?_
    refine EV.icmp_lt 12 16 rfl (by decide) dX9_look__9 (fun c3 => ?_) (fun c3 => ?_)
    · have h := h.1 c3
      refine EV.aload_n 17 rfl 0 rfl rfl dX9_look__16 ?_
      obtain ⟨t4, g5, h⟩ := h
      refine EV.getR 20 rfl fl_X9_20 rfl dX9_look__17 w2 g5 ?_
      refine EV.iload_n 21 rfl 1 rfl rfl dX9_look__20 ?_
      obtain ⟨n7, w6, h⟩ := h
      obtain ⟨j8, x9, h⟩ := h
      refine EV.zald 22 rfl dX9_look__21 w6 x9 ?_
      refine EV.if_eq 25 29 rfl (by decide) dX9_look__22 (fun c10 => ?_) (fun c10 => ?_)
      · have h := h.1 c10
        refine EV.iconst 30 rfl dX9_look__29 (v := 0) (by decide) ?_
        exact EV.iret rfl dX9_look__30 h
      · have h := h.2 c10
        refine EV.iconst 26 rfl dX9_look__25 (v := 2) (by decide) ?_
        refine EV.goto 30 (by decide) dX9_look__26 ?_
        exact EV.iret rfl dX9_look__30 h
    · have h := h.2 c3
      refine EV.iconst 13 rfl dX9_look__12 (v := 1) (by decide) ?_
      refine EV.goto 30 (by decide) dX9_look__13 ?_
      exact EV.iret rfl dX9_look__30 h
theorem eX9_look_ {Γ : Gm} {d : Nat} {σ : AH} {Q : Oc → AH → Prop} {v0 : Nat} {v1 : Int32} (h : ((v1 < 0 → Q (.inl (some (.int 1))) σ) ∧ (¬ v1 < 0 → hs σ v0 = some (7, 27) ∧ ((v1 < (gi σ v0 6) → ∃ t4 : Nat, gr σ v0 8 = some t4 ∧ ∃ n7 : Nat, hs σ t4 = some (21, n7) ∧ ∃ j8 : Nat, IX v1 n7 j8 ∧ (((gi σ t4 j8) = 0 → Q (.inl (some (.int 0))) σ) ∧ (¬ (gi σ t4 j8) = 0 → Q (.inl (some (.int 2))) σ))) ∧ (¬ v1 < (gi σ v0 6) → Q (.inl (some (.int 1))) σ))))) : RUN Γ d MX9_look_ [.ref v0, .int v1] σ Q :=
  EV.enter [some (.ref v0), some (.int v1)] rfl (by decide +kernel) (Nat.le_of_ble_eq_true rfl) rfl (gX9_look__0 h)
theorem gX9_look___0 {Γ : Gm} {d : Nat} {σ : AH} {Q : Oc → AH → Prop} {v0 : Nat} {v1 : Int32} {v2 : Int32} (h : hs σ v0 = some (7, 27) ∧ CI Γ d MX9_look_ [.ref v0, .int v1] σ (fun r2 σ1 => hs σ1 v0 = some (7, 27) ∧ CI Γ d MX9_look_ [.ref v0, .int v2] σ1 (fun r5 σ4 => ((r2 = 1 → Q (.inl (some (.int 1))) σ4) ∧ (¬ r2 = 1 → ((r5 ≠ 1 → 1 ≤ d ∧ Q (.inl (some (.int (if r2 < r5 then r5 else r2)))) σ4) ∧ (r5 = 1 → Q (.inl (some (.int 1))) σ4))))) (fun E σ4 => Q (.inr E) σ4)) (fun E σ1 => Q (.inr E) σ1)) : EV Γ MX9_look__ d 0 [some (.ref v0), some (.int v1), some (.int v2), none, none] [] σ Q := by
  refine EV.aload_n 1 rfl 0 rfl rfl dX9_look___0 ?_
  refine EV.iload_n 2 rfl 1 rfl rfl dX9_look___1 ?_
  obtain ⟨w3, h⟩ := h
  refine EV.cV rfl rfl lk_X9_220 rfl (vs := [.int v1]) (st := []) rfl rfl (Nat.le_of_ble_eq_true rfl) dX9_look___2 w3 h (fun v σ1 h => ?_)
  obtain ⟨r2, rfl, h⟩ := h
  show EV Γ MX9_look__ d 5 [some (.ref v0), some (.int v1), some (.int v2), none, none] [.int r2] σ1 Q
  refine EV.istore_n 6 rfl 3 [some (.ref v0), some (.int v1), some (.int v2), some (.int r2), none] rfl (by decide) rfl dX9_look___5 ?_
  refine EV.aload_n 7 rfl 0 rfl rfl dX9_look___6 ?_
  refine EV.iload_n 8 rfl 2 rfl rfl dX9_look___7 ?_
  obtain ⟨w6, h⟩ := h
  refine EV.cV rfl rfl lk_X9_220 rfl (vs := [.int v2]) (st := []) rfl rfl (Nat.le_of_ble_eq_true rfl) dX9_look___8 w6 h (fun v σ4 h => ?_)
  obtain ⟨r5, rfl, h⟩ := h
  show EV Γ MX9_look__ d 11 [some (.ref v0), some (.int v1), some (.int v2), some (.int r2), none] [.int r5] σ4 Q
  refine EV.istore 13 rfl [some (.ref v0), some (.int v1), some (.int v2), some (.int r2), some (.int r5)] (by decide) rfl dX9_look___11 ?_
  refine EV.iload_n 14 rfl 3 rfl rfl dX9_look___13 ?_
  refine EV.iconst 15 rfl dX9_look___14 (v := 1) (by decide) ?_
  refine EV.icmp_eq 18 24 rfl (by decide) dX9_look___15 (fun c7 => ?_) (fun c7 => ?_)
  · have h := h.1 c7
    refine EV.iconst 25 rfl dX9_look___24 (v := 1) (by decide) ?_
    refine EV.goto 34 (by decide) dX9_look___25 ?_
    exact EV.iret rfl dX9_look___34 h
  · have h := h.2 c7
    refine EV.iload 20 rfl rfl dX9_look___18 ?_
    refine EV.iconst 21 rfl dX9_look___20 (v := 1) (by decide) ?_
    refine EV.icmp_ne 24 28 rfl (by decide) dX9_look___21 (fun c8 => ?_) (fun c8 => ?_)
    · have h := h.1 c8
      refine EV.iload_n 29 rfl 3 rfl rfl dX9_look___28 ?_
      refine EV.iload 31 rfl rfl dX9_look___29 ?_
      obtain ⟨z9, h⟩ := h
      refine EV.mmax 34 rfl mm_X9_222 z9 (Nat.le_of_ble_eq_true rfl) dX9_look___31 ?_
      exact EV.iret rfl dX9_look___34 h
    · have h := h.2 c8
      refine EV.iconst 25 rfl dX9_look___24 (v := 1) (by decide) ?_
      refine EV.goto 34 (by decide) dX9_look___25 ?_
      exact EV.iret rfl dX9_look___34 h
theorem eX9_look__ {Γ : Gm} {d : Nat} {σ : AH} {Q : Oc → AH → Prop} {v0 : Nat} {v1 : Int32} {v2 : Int32} (h : hs σ v0 = some (7, 27) ∧ CI Γ d MX9_look_ [.ref v0, .int v1] σ (fun r2 σ1 => hs σ1 v0 = some (7, 27) ∧ CI Γ d MX9_look_ [.ref v0, .int v2] σ1 (fun r5 σ4 => ((r2 = 1 → Q (.inl (some (.int 1))) σ4) ∧ (¬ r2 = 1 → ((r5 ≠ 1 → 1 ≤ d ∧ Q (.inl (some (.int (if r2 < r5 then r5 else r2)))) σ4) ∧ (r5 = 1 → Q (.inl (some (.int 1))) σ4))))) (fun E σ4 => Q (.inr E) σ4)) (fun E σ1 => Q (.inr E) σ1)) : RUN Γ d MX9_look__ [.ref v0, .int v1, .int v2] σ Q :=
  EV.enter [some (.ref v0), some (.int v1), some (.int v2), none, none] rfl (by decide +kernel) (Nat.le_of_ble_eq_true rfl) rfl (gX9_look___0 h)
theorem gX9_elementsIn_0 {Γ : Gm} {d : Nat} {σ : AH} {Q : Oc → AH → Prop} {v0 : Int32} (h : EV Γ MX9_elementsIn d 4 [some (.int v0), some (.int 0), some (.int 0)] [] σ Q) : EV Γ MX9_elementsIn d 0 [some (.int v0), none, none] [] σ Q := by
  refine EV.iconst 1 rfl dX9_elementsIn_0 (v := 0) (by decide) ?_
  refine EV.istore_n 2 rfl 1 [some (.int v0), some (.int 0), none] rfl (by decide) rfl dX9_elementsIn_1 ?_
  refine EV.iconst 3 rfl dX9_elementsIn_2 (v := 0) (by decide) ?_
  refine EV.istore_n 4 rfl 2 [some (.int v0), some (.int 0), some (.int 0)] rfl (by decide) rfl dX9_elementsIn_3 ?_
  exact h
theorem eX9_elementsIn {Γ : Gm} {d : Nat} {σ : AH} {Q : Oc → AH → Prop} {v0 : Int32} (h : EV Γ MX9_elementsIn d 4 [some (.int v0), some (.int 0), some (.int 0)] [] σ Q) : RUN Γ d MX9_elementsIn [.int v0] σ Q :=
  EV.enter [some (.int v0), none, none] rfl (by decide +kernel) (Nat.le_of_ble_eq_true rfl) rfl (gX9_elementsIn_0 h)
theorem gX9_elementsIn_4 {Γ : Gm} {d : Nat} {σ : AH} {Q : Oc → AH → Prop} {v0 : Int32} {v1 : Int32} {v2 : Int32} (h : ((12 ≤ v2 → Q (.inl (some (.int v1))) σ) ∧ (¬ 12 ≤ v2 → EV Γ MX9_elementsIn d 4 [some (.int v0), some (.int (v1 + ((v0 >>> (v2 &&& 31)) &&& 1))), some (.int (v2 + 1))] [] σ Q))) : EV Γ MX9_elementsIn d 4 [some (.int v0), some (.int v1), some (.int v2)] [] σ Q := by
  refine EV.iload_n 5 rfl 2 rfl rfl dX9_elementsIn_4 ?_
  refine EV.bipush 7 rfl dX9_elementsIn_5 (v := 12) (by decide) ?_
  refine EV.icmp_ge 10 24 rfl (by decide) dX9_elementsIn_7 (fun c1 => ?_) (fun c1 => ?_)
  · have h := h.1 c1
    refine EV.iload_n 25 rfl 1 rfl rfl dX9_elementsIn_24 ?_
    exact EV.iret rfl dX9_elementsIn_25 h
  · have h := h.2 c1
    refine EV.iload_n 11 rfl 1 rfl rfl dX9_elementsIn_10 ?_
    refine EV.iload_n 12 rfl 0 rfl rfl dX9_elementsIn_11 ?_
    refine EV.iload_n 13 rfl 2 rfl rfl dX9_elementsIn_12 ?_
    refine EV.ishr 14 rfl dX9_elementsIn_13 ?_
    refine EV.iconst 15 rfl dX9_elementsIn_14 (v := 1) (by decide) ?_
    refine EV.iand 16 rfl dX9_elementsIn_15 ?_
    refine EV.iadd 17 rfl dX9_elementsIn_16 ?_
    refine EV.istore_n 18 rfl 1 [some (.int v0), some (.int (v1 + ((v0 >>> (v2 &&& 31)) &&& 1))), some (.int v2)] rfl (by decide) rfl dX9_elementsIn_17 ?_
    refine EV.iinc 21 rfl [some (.int v0), some (.int (v1 + ((v0 >>> (v2 &&& 31)) &&& 1))), some (.int (v2 + 1))] (v := 1) (by decide) (by decide) rfl rfl dX9_elementsIn_18 ?_
    refine EV.goto 4 (by decide) dX9_elementsIn_21 ?_
    exact h
theorem gX9_write_0 {Γ : Gm} {d : Nat} {σ : AH} {Q : Oc → AH → Prop} {v0 : Nat} {v1 : Int32} (h : hs σ v0 = some (7, 27) ∧ CI Γ d MX9_look_ [.ref v0, .int v1] σ (fun r2 σ1 => hs σ1 v0 = some (7, 27) ∧ ∀ σ5 : AH, σ5 = setI σ1 v0 0 r2 → (((gi σ5 v0 0) = 0 → EV Γ MX9_write d 22 [some (.ref v0), some (.int v1), some (.int 0), some (.int 0), none] [] σ5 Q) ∧ (¬ (gi σ5 v0 0) = 0 → Q (.inl (some (.int 0))) σ5))) (fun E σ1 => Q (.inr E) σ1)) : EV Γ MX9_write d 0 [some (.ref v0), some (.int v1), none, none, none] [] σ Q := by
  refine EV.aload_n 1 rfl 0 rfl rfl dX9_write_0 ?_
  refine EV.aload_n 2 rfl 0 rfl rfl dX9_write_1 ?_
  refine EV.iload_n 3 rfl 1 rfl rfl dX9_write_2 ?_
  obtain ⟨w3, h⟩ := h
  refine EV.cV rfl rfl lk_X9_220 rfl (vs := [.int v1]) (st := [.ref v0]) rfl rfl (Nat.le_of_ble_eq_true rfl) dX9_write_3 w3 h (fun v σ1 h => ?_)
  obtain ⟨r2, rfl, h⟩ := h
  show EV Γ MX9_write d 6 [some (.ref v0), some (.int v1), none, none, none] [.int r2, .ref v0] σ1 Q
  obtain ⟨w4, h⟩ := h
  refine EV.putI 9 rfl fw_X9_62 rfl (by decide) dX9_write_6 w4 (EV.nm (fun σ5 e6 => ?_))
  have h := h σ5 e6
  have w7 := tr_hs (hs_setI_of e6) w4
  refine EV.aload_n 10 rfl 0 rfl rfl dX9_write_9 ?_
  refine EV.getI 13 rfl fl_X9_62 rfl dX9_write_10 w7 ?_
  refine EV.if_eq 16 18 rfl (by decide) dX9_write_13 (fun c8 => ?_) (fun c8 => ?_)
  · have h := h.1 c8
    refine EV.iconst 19 rfl dX9_write_18 (v := 0) (by decide) ?_
    refine EV.istore_n 20 rfl 2 [some (.ref v0), some (.int v1), some (.int 0), none, none] rfl (by decide) rfl dX9_write_19 ?_
    refine EV.iconst 21 rfl dX9_write_20 (v := 0) (by decide) ?_
    refine EV.istore_n 22 rfl 3 [some (.ref v0), some (.int v1), some (.int 0), some (.int 0), none] rfl (by decide) rfl dX9_write_21 ?_
    exact h
  · have h := h.2 c8
    refine EV.iconst 17 rfl dX9_write_16 (v := 0) (by decide) ?_
    exact EV.iret rfl dX9_write_17 h
theorem eX9_write {Γ : Gm} {d : Nat} {σ : AH} {Q : Oc → AH → Prop} {v0 : Nat} {v1 : Int32} (h : hs σ v0 = some (7, 27) ∧ CI Γ d MX9_look_ [.ref v0, .int v1] σ (fun r2 σ1 => hs σ1 v0 = some (7, 27) ∧ ∀ σ5 : AH, σ5 = setI σ1 v0 0 r2 → (((gi σ5 v0 0) = 0 → EV Γ MX9_write d 22 [some (.ref v0), some (.int v1), some (.int 0), some (.int 0), none] [] σ5 Q) ∧ (¬ (gi σ5 v0 0) = 0 → Q (.inl (some (.int 0))) σ5))) (fun E σ1 => Q (.inr E) σ1)) : RUN Γ d MX9_write [.ref v0, .int v1] σ Q :=
  EV.enter [some (.ref v0), some (.int v1), none, none, none] rfl (by decide +kernel) (Nat.le_of_ble_eq_true rfl) rfl (gX9_write_0 h)
theorem gX9_write_22 {Γ : Gm} {d : Nat} {σ : AH} {Q : Oc → AH → Prop} {v0 : Nat} {v1 : Int32} {v2 : Int32} {v3 : Int32} (h : ((4096 ≤ v3 → ((v2 ≤ 1000 → hs σ v0 = some (7, 27) ∧ ∀ σ4 : AH, σ4 = setI σ v0 4 0 → EV Γ MX9_write d 88 [some (.ref v0), some (.int v1), none, some (.int 0), none] [] σ4 Q) ∧ (¬ v2 ≤ 1000 → hs σ v0 = some (7, 27) ∧ CI Γ d MX9_fail [.ref v0, .int 3] σ (fun r8 σ7 => Q (.inl (some (.int r8))) σ7) (fun E σ7 => Q (.inr E) σ7)))) ∧ (¬ 4096 ≤ v3 → hs σ v0 = some (7, 27) ∧ ∃ t11 : Nat, gr σ v0 9 = some t11 ∧ CI Γ d MX9_has [.ref t11, .int v1, .int v3] σ (fun r14 σ13 => ((r14 = 0 → EV Γ MX9_write d 22 [some (.ref v0), some (.int v1), some (.int v2), some (.int (v3 + 1)), none] [] σ13 Q) ∧ (¬ r14 = 0 → ((v2 ≤ 0 → EV Γ MX9_write d 51 [some (.ref v0), some (.int v1), none, some (.int v3), none] [.int 0, .int v2] σ13 Q) ∧ (¬ v2 ≤ 0 → EV Γ MX9_write d 51 [some (.ref v0), some (.int v1), none, some (.int v3), none] [.int 1, .int v2] σ13 Q))))) (fun _ _ => False)))) : EV Γ MX9_write d 22 [some (.ref v0), some (.int v1), some (.int v2), some (.int v3), none] [] σ Q := by
  refine EV.iload_n 23 rfl 3 rfl rfl dX9_write_22 ?_
  refine EV.sipush 26 rfl dX9_write_23 (v := 4096) (by decide) ?_
  refine EV.icmp_ge 29 68 rfl (by decide) dX9_write_26 (fun c1 => ?_) (fun c1 => ?_)
  · have h := h.1 c1
    refine EV.iload_n 69 rfl 2 rfl rfl dX9_write_68 ?_
    refine EV.sipush 72 rfl dX9_write_69 (v := 1000) (by decide) ?_
    refine EV.icmp_le 75 81 rfl (by decide) dX9_write_72 (fun c2 => ?_) (fun c2 => ?_)
    · have h := h.1 c2
      refine EV.aload_n 82 rfl 0 rfl rfl dX9_write_81 ?_
      refine EV.iconst 83 rfl dX9_write_82 (v := 0) (by decide) ?_
      obtain ⟨w3, h⟩ := h
      refine EV.putI 86 rfl fw_X9_231 rfl (by decide) dX9_write_83 w3 (EV.nm (fun σ4 e5 => ?_))
      have h := h σ4 e5
      have w6 := tr_hs (hs_setI_of e5) w3
      refine EV.iconst 87 rfl dX9_write_86 (v := 0) (by decide) ?_
      refine EV.istore_n 88 rfl 3 [some (.ref v0), some (.int v1), some (.int v2), some (.int 0), none] rfl (by decide) rfl dX9_write_87 ?_
      refine EV.mask [true, true, false, true, false] (L' := [some (.ref v0), some (.int v1), none, some (.int 0), none]) rfl ?_
      exact h
    · have h := h.2 c2
      refine EV.aload_n 76 rfl 0 rfl rfl dX9_write_75 ?_
      refine EV.iconst 77 rfl dX9_write_76 (v := 3) (by decide) ?_
      obtain ⟨w9, h⟩ := h
      refine EV.cV rfl rfl lk_X9_139 rfl (vs := [.int 3]) (st := []) rfl rfl (Nat.le_of_ble_eq_true rfl) dX9_write_77 w9 h (fun v σ7 h => ?_)
      obtain ⟨r8, rfl, h⟩ := h
      show EV Γ MX9_write d 80 [some (.ref v0), some (.int v1), some (.int v2), some (.int v3), none] [.int r8] σ7 Q
      exact EV.iret rfl dX9_write_80 h
  · have h := h.2 c1
    refine EV.aload_n 30 rfl 0 rfl rfl dX9_write_29 ?_
    obtain ⟨w10, h⟩ := h
    obtain ⟨t11, g12, h⟩ := h
    refine EV.getR 33 rfl fl_X9_24 rfl dX9_write_30 w10 g12 ?_
    refine EV.iload_n 34 rfl 1 rfl rfl dX9_write_33 ?_
    refine EV.iload_n 35 rfl 3 rfl rfl dX9_write_34 ?_
    refine EV.cS rfl lk_X9_65 rfl (vs := [.ref t11, .int v1, .int v3]) (st := []) rfl rfl (Nat.le_of_ble_eq_true rfl) dX9_write_35 h (fun v σ13 h => ?_)
    obtain ⟨r14, rfl, h⟩ := h
    show EV Γ MX9_write d 38 [some (.ref v0), some (.int v1), some (.int v2), some (.int v3), none] [.int r14] σ13 Q
    refine EV.if_eq 41 62 rfl (by decide) dX9_write_38 (fun c15 => ?_) (fun c15 => ?_)
    · have h := h.1 c15
      refine EV.iinc 65 rfl [some (.ref v0), some (.int v1), some (.int v2), some (.int (v3 + 1)), none] (v := 1) (by decide) (by decide) rfl rfl dX9_write_62 ?_
      refine EV.goto 22 (by decide) dX9_write_65 ?_
      exact h
    · have h := h.2 c15
      refine EV.iload_n 42 rfl 2 rfl rfl dX9_write_41 ?_
      refine EV.iload_n 43 rfl 2 rfl rfl dX9_write_42 ?_
      refine EV.if_le 46 50 rfl (by decide) dX9_write_43 (fun c16 => ?_) (fun c16 => ?_)
      · have h := h.1 c16
        refine EV.iconst 51 rfl dX9_write_50 (v := 0) (by decide) ?_
        refine EV.mask [true, true, false, true, false] (L' := [some (.ref v0), some (.int v1), none, some (.int v3), none]) rfl ?_
        exact h
      · have h := h.2 c16
        refine EV.iconst 47 rfl dX9_write_46 (v := 1) (by decide) ?_
        refine EV.goto 51 (by decide) dX9_write_47 ?_
        refine EV.mask [true, true, false, true, false] (L' := [some (.ref v0), some (.int v1), none, some (.int v3), none]) rfl ?_
        exact h
theorem gX9_write_51 {Γ : Gm} {d : Nat} {σ : AH} {Q : Oc → AH → Prop} {v0 : Nat} {v1 : Int32} {v3 : Int32} {s0 : Int32} {s1 : Int32} (h : CI Γ d MX9_elementsIn [.int v3] σ (fun r2 σ1 => 1 ≤ d ∧ EV Γ MX9_write d 22 [some (.ref v0), some (.int v1), some (.int (s1 + (s0 + (if r2 < 1 then 1 else r2)))), some (.int (v3 + 1)), none] [] σ1 Q) (fun _ _ => False)) : EV Γ MX9_write d 51 [some (.ref v0), some (.int v1), none, some (.int v3), none] [.int s0, .int s1] σ Q := by
  refine EV.iload_n 52 rfl 3 rfl rfl dX9_write_51 ?_
  refine EV.cS rfl lk_X9_228 rfl (vs := [.int v3]) (st := [.int s0, .int s1]) rfl rfl (Nat.le_of_ble_eq_true rfl) dX9_write_52 h (fun v σ1 h => ?_)
  obtain ⟨r2, rfl, h⟩ := h
  show EV Γ MX9_write d 55 [some (.ref v0), some (.int v1), none, some (.int v3), none] [.int r2, .int s0, .int s1] σ1 Q
  refine EV.iconst 56 rfl dX9_write_55 (v := 1) (by decide) ?_
  obtain ⟨z3, h⟩ := h
  refine EV.mmax 59 rfl mm_X9_222 z3 (Nat.le_of_ble_eq_true rfl) dX9_write_56 ?_
  refine EV.iadd 60 rfl dX9_write_59 ?_
  refine EV.iadd 61 rfl dX9_write_60 ?_
  refine EV.istore_n 62 rfl 2 [some (.ref v0), some (.int v1), some (.int (s1 + (s0 + (if r2 < 1 then 1 else r2)))), some (.int v3), none] rfl (by decide) rfl dX9_write_61 ?_
  refine EV.iinc 65 rfl [some (.ref v0), some (.int v1), some (.int (s1 + (s0 + (if r2 < 1 then 1 else r2)))), some (.int (v3 + 1)), none] (v := 1) (by decide) (by decide) rfl rfl dX9_write_62 ?_
  refine EV.goto 22 (by decide) dX9_write_65 ?_
  exact h
theorem gX9_write_88 {Γ : Gm} {d : Nat} {σ : AH} {Q : Oc → AH → Prop} {v0 : Nat} {v1 : Int32} {v3 : Int32} (h : ((4096 ≤ v3 → hs σ v0 = some (7, 27) ∧ (((gi σ v0 4) ≠ 0 → Q (.inl (some (.int (gi σ v0 4)))) σ) ∧ ((gi σ v0 4) = 0 → CV Γ d MX9_letter [.ref v0, .int 48] σ (fun σ4 => hs σ4 v0 = some (7, 27) ∧ Q (.inl (some (.int (gi σ4 v0 4)))) σ4) (fun E σ4 => Q (.inr E) σ4)))) ∧ (¬ 4096 ≤ v3 → hs σ v0 = some (7, 27) ∧ ∃ t8 : Nat, gr σ v0 9 = some t8 ∧ CI Γ d MX9_has [.ref t8, .int v1, .int v3] σ (fun r11 σ10 => ((r11 ≠ 0 → hs σ10 v0 = some (7, 27) ∧ (((gi σ10 v0 4) ≤ 0 → EV Γ MX9_write d 123 [some (.ref v0), some (.int v1), none, some (.int v3), none] [] σ10 Q) ∧ (¬ (gi σ10 v0 4) ≤ 0 → CV Γ d MX9_letter [.ref v0, .int 43] σ10 (fun σ15 => EV Γ MX9_write d 123 [some (.ref v0), some (.int v1), none, some (.int v3), none] [] σ15 Q) (fun E σ15 => Q (.inr E) σ15)))) ∧ (r11 = 0 → EV Γ MX9_write d 88 [some (.ref v0), some (.int v1), none, some (.int (v3 + 1)), none] [] σ10 Q))) (fun _ _ => False)))) : EV Γ MX9_write d 88 [some (.ref v0), some (.int v1), none, some (.int v3), none] [] σ Q := by
  refine EV.iload_n 89 rfl 3 rfl rfl dX9_write_88 ?_
  refine EV.sipush 92 rfl dX9_write_89 (v := 4096) (by decide) ?_
  refine EV.icmp_ge 95 174 rfl (by decide) dX9_write_92 (fun c1 => ?_) (fun c1 => ?_)
  · have h := h.1 c1
    refine EV.aload_n 175 rfl 0 rfl rfl dX9_write_174 ?_
    obtain ⟨w2, h⟩ := h
    refine EV.getI 178 rfl fl_X9_231 rfl dX9_write_175 w2 ?_
    refine EV.if_ne 181 187 rfl (by decide) dX9_write_178 (fun c3 => ?_) (fun c3 => ?_)
    · have h := h.1 c3
      refine EV.aload_n 188 rfl 0 rfl rfl dX9_write_187 ?_
      refine EV.getI 191 rfl fl_X9_231 rfl dX9_write_188 w2 ?_
      exact EV.iret rfl dX9_write_191 h
    · have h := h.2 c3
      refine EV.aload_n 182 rfl 0 rfl rfl dX9_write_181 ?_
      refine EV.bipush 184 rfl dX9_write_182 (v := 48) (by decide) ?_
      refine EV.cV rfl rfl lk_X9_234 rfl (vs := [.int 48]) (st := []) rfl rfl (Nat.le_of_ble_eq_true rfl) dX9_write_184 w2 h (fun v σ4 h => ?_)
      obtain ⟨rfl, h⟩ := h
      show EV Γ MX9_write d 187 [some (.ref v0), some (.int v1), none, some (.int v3), none] [] σ4 Q
      refine EV.aload_n 188 rfl 0 rfl rfl dX9_write_187 ?_
      obtain ⟨w6, h⟩ := h
      refine EV.getI 191 rfl fl_X9_231 rfl dX9_write_188 w6 ?_
      exact EV.iret rfl dX9_write_191 h
  · have h := h.2 c1
    refine EV.aload_n 96 rfl 0 rfl rfl dX9_write_95 ?_
    obtain ⟨w7, h⟩ := h
    obtain ⟨t8, g9, h⟩ := h
    refine EV.getR 99 rfl fl_X9_24 rfl dX9_write_96 w7 g9 ?_
    refine EV.iload_n 100 rfl 1 rfl rfl dX9_write_99 ?_
    refine EV.iload_n 101 rfl 3 rfl rfl dX9_write_100 ?_
    refine EV.cS rfl lk_X9_65 rfl (vs := [.ref t8, .int v1, .int v3]) (st := []) rfl rfl (Nat.le_of_ble_eq_true rfl) dX9_write_101 h (fun v σ10 h => ?_)
    obtain ⟨r11, rfl, h⟩ := h
    show EV Γ MX9_write d 104 [some (.ref v0), some (.int v1), none, some (.int v3), none] [.int r11] σ10 Q
    refine EV.if_ne 107 110 rfl (by decide) dX9_write_104 (fun c12 => ?_) (fun c12 => ?_)
    · have h := h.1 c12
      refine EV.aload_n 111 rfl 0 rfl rfl dX9_write_110 ?_
      obtain ⟨w13, h⟩ := h
      refine EV.getI 114 rfl fl_X9_231 rfl dX9_write_111 w13 ?_
      refine EV.if_le 117 123 rfl (by decide) dX9_write_114 (fun c14 => ?_) (fun c14 => ?_)
      · have h := h.1 c14
        exact h
      · have h := h.2 c14
        refine EV.aload_n 118 rfl 0 rfl rfl dX9_write_117 ?_
        refine EV.bipush 120 rfl dX9_write_118 (v := 43) (by decide) ?_
        refine EV.cV rfl rfl lk_X9_234 rfl (vs := [.int 43]) (st := []) rfl rfl (Nat.le_of_ble_eq_true rfl) dX9_write_120 w13 h (fun v σ15 h => ?_)
        obtain ⟨rfl, h⟩ := h
        show EV Γ MX9_write d 123 [some (.ref v0), some (.int v1), none, some (.int v3), none] [] σ15 Q
        exact h
    · have h := h.2 c12
      refine EV.goto 168 (by decide) dX9_write_107 ?_
      refine EV.iinc 171 rfl [some (.ref v0), some (.int v1), none, some (.int (v3 + 1)), none] (v := 1) (by decide) (by decide) rfl rfl dX9_write_168 ?_
      refine EV.goto 88 (by decide) dX9_write_171 ?_
      exact h
theorem gX9_write_123 {Γ : Gm} {d : Nat} {σ : AH} {Q : Oc → AH → Prop} {v0 : Nat} {v1 : Int32} {v3 : Int32} (h : ((v3 ≠ 0 → EV Γ MX9_write d 136 [some (.ref v0), some (.int v1), none, some (.int v3), some (.int 0)] [] σ Q) ∧ (v3 = 0 → hs σ v0 = some (7, 27) ∧ CV Γ d MX9_letter [.ref v0, .int 49] σ (fun σ2 => EV Γ MX9_write d 136 [some (.ref v0), some (.int v1), none, some (.int v3), some (.int 0)] [] σ2 Q) (fun E σ2 => Q (.inr E) σ2)))) : EV Γ MX9_write d 123 [some (.ref v0), some (.int v1), none, some (.int v3), none] [] σ Q := by
  refine EV.iload_n 124 rfl 3 rfl rfl dX9_write_123 ?_
  refine EV.if_ne 127 133 rfl (by decide) dX9_write_124 (fun c1 => ?_) (fun c1 => ?_)
  · have h := h.1 c1
    refine EV.iconst 134 rfl dX9_write_133 (v := 0) (by decide) ?_
    refine EV.istore 136 rfl [some (.ref v0), some (.int v1), none, some (.int v3), some (.int 0)] (by decide) rfl dX9_write_134 ?_
    exact h
  · have h := h.2 c1
    refine EV.aload_n 128 rfl 0 rfl rfl dX9_write_127 ?_
    refine EV.bipush 130 rfl dX9_write_128 (v := 49) (by decide) ?_
    obtain ⟨w4, h⟩ := h
    refine EV.cV rfl rfl lk_X9_234 rfl (vs := [.int 49]) (st := []) rfl rfl (Nat.le_of_ble_eq_true rfl) dX9_write_130 w4 h (fun v σ2 h => ?_)
    obtain ⟨rfl, h⟩ := h
    show EV Γ MX9_write d 133 [some (.ref v0), some (.int v1), none, some (.int v3), none] [] σ2 Q
    refine EV.iconst 134 rfl dX9_write_133 (v := 0) (by decide) ?_
    refine EV.istore 136 rfl [some (.ref v0), some (.int v1), none, some (.int v3), some (.int 0)] (by decide) rfl dX9_write_134 ?_
    exact h
theorem gX9_write_136 {Γ : Gm} {d : Nat} {σ : AH} {Q : Oc → AH → Prop} {v0 : Nat} {v1 : Int32} {v3 : Int32} {v4 : Int32} (h : ((12 ≤ v4 → EV Γ MX9_write d 88 [some (.ref v0), some (.int v1), none, some (.int (v3 + 1)), none] [] σ Q) ∧ (¬ 12 ≤ v4 → ((((v3 >>> (v4 &&& 31)) &&& 1) ≠ 1 → EV Γ MX9_write d 136 [some (.ref v0), some (.int v1), none, some (.int v3), some (.int (v4 + 1))] [] σ Q) ∧ (((v3 >>> (v4 &&& 31)) &&& 1) = 1 → hs σ v0 = some (7, 27) ∧ CV Γ d MX9_letter [.ref v0, .int ((97 : Int32) + v4)] σ (fun σ3 => EV Γ MX9_write d 136 [some (.ref v0), some (.int v1), none, some (.int v3), some (.int (v4 + 1))] [] σ3 Q) (fun E σ3 => Q (.inr E) σ3)))))) : EV Γ MX9_write d 136 [some (.ref v0), some (.int v1), none, some (.int v3), some (.int v4)] [] σ Q := by
  refine EV.iload 138 rfl rfl dX9_write_136 ?_
  refine EV.bipush 140 rfl dX9_write_138 (v := 12) (by decide) ?_
  refine EV.icmp_ge 143 168 rfl (by decide) dX9_write_140 (fun c1 => ?_) (fun c1 => ?_)
  · have h := h.1 c1
    refine EV.iinc 171 rfl [some (.ref v0), some (.int v1), none, some (.int (v3 + 1)), some (.int v4)] (v := 1) (by decide) (by decide) rfl rfl dX9_write_168 ?_
    refine EV.goto 88 (by decide) dX9_write_171 ?_
    refine EV.mask [true, true, false, true, false] (L' := [some (.ref v0), some (.int v1), none, some (.int (v3 + 1)), none]) rfl ?_
    exact h
  · have h := h.2 c1
    refine EV.iload_n 144 rfl 3 rfl rfl dX9_write_143 ?_
    refine EV.iload 146 rfl rfl dX9_write_144 ?_
    refine EV.ishr 147 rfl dX9_write_146 ?_
    refine EV.iconst 148 rfl dX9_write_147 (v := 1) (by decide) ?_
    refine EV.iand 149 rfl dX9_write_148 ?_
    refine EV.iconst 150 rfl dX9_write_149 (v := 1) (by decide) ?_
    refine EV.icmp_ne 153 162 rfl (by decide) dX9_write_150 (fun c2 => ?_) (fun c2 => ?_)
    · have h := h.1 c2
      refine EV.iinc 165 rfl [some (.ref v0), some (.int v1), none, some (.int v3), some (.int (v4 + 1))] (v := 1) (by decide) (by decide) rfl rfl dX9_write_162 ?_
      refine EV.goto 136 (by decide) dX9_write_165 ?_
      exact h
    · have h := h.2 c2
      refine EV.aload_n 154 rfl 0 rfl rfl dX9_write_153 ?_
      refine EV.bipush 156 rfl dX9_write_154 (v := 97) (by decide) ?_
      refine EV.iload 158 rfl rfl dX9_write_156 ?_
      refine EV.iadd 159 rfl dX9_write_158 ?_
      obtain ⟨w5, h⟩ := h
      refine EV.cV rfl rfl lk_X9_234 rfl (vs := [.int ((97 : Int32) + v4)]) (st := []) rfl rfl (Nat.le_of_ble_eq_true rfl) dX9_write_159 w5 h (fun v σ3 h => ?_)
      obtain ⟨rfl, h⟩ := h
      show EV Γ MX9_write d 162 [some (.ref v0), some (.int v1), none, some (.int v3), some (.int v4)] [] σ3 Q
      refine EV.iinc 165 rfl [some (.ref v0), some (.int v1), none, some (.int v3), some (.int (v4 + 1))] (v := 1) (by decide) (by decide) rfl rfl dX9_write_162 ?_
      refine EV.goto 136 (by decide) dX9_write_165 ?_
      exact h
theorem gX9_letter_0 {Γ : Gm} {d : Nat} {σ : AH} {Q : Oc → AH → Prop} {v0 : Nat} {v1 : Int32} (h : hs σ v0 = some (7, 27) ∧ ∃ t2 : Nat, gr σ v0 3 = some t2 ∧ ∃ n5 : Nat, hs σ t2 = some (20, n5) ∧ ∃ j6 : Nat, IX (gi σ v0 4) n5 j6 ∧ ∀ σ8 : AH, σ8 = setI σ t2 j6 (vp_nar .byte (Int8.toInt32 (Int32.toInt8 v1))) → ∀ σ13 : AH, σ13 = setI σ8 v0 4 ((gi σ8 v0 4) + 1) → Q (.inl none) σ13) : EV Γ MX9_letter d 0 [some (.ref v0), some (.int v1)] [] σ Q := by
  refine EV.aload_n 1 rfl 0 rfl rfl dX9_letter_0 ?_
  obtain ⟨w1, h⟩ := h
  obtain ⟨t2, g3, h⟩ := h
  refine EV.getR 4 rfl fl_X9_13 rfl dX9_letter_1 w1 g3 ?_
  refine EV.aload_n 5 rfl 0 rfl rfl dX9_letter_4 ?_
  refine EV.getI 8 rfl fl_X9_231 rfl dX9_letter_5 w1 ?_
  refine EV.iload_n 9 rfl 1 rfl rfl dX9_letter_8 ?_
  refine EV.i2b 10 rfl dX9_letter_9 ?_
  obtain ⟨n5, w4, h⟩ := h
  obtain ⟨j6, x7, h⟩ := h
  refine EV.bast 11 rfl dX9_letter_10 w4 x7 (EV.nm (fun σ8 e9 => ?_))
  have h := h σ8 e9
  have w10 := tr_hs (hs_setI_of e9) w1
  have w11 := tr_hs (hs_setI_of e9) w4
  have g12 := tr_gr (gr_setI_of e9) g3
  refine EV.aload_n 12 rfl 0 rfl rfl dX9_letter_11 ?_
  refine EV.dup 13 rfl dX9_letter_12 rfl ?_
  refine EV.getI 16 rfl fl_X9_231 rfl dX9_letter_13 w10 ?_
  refine EV.iconst 17 rfl dX9_letter_16 (v := 1) (by decide) ?_
  refine EV.iadd 18 rfl dX9_letter_17 ?_
  refine EV.putI 21 rfl fw_X9_231 rfl (by decide) dX9_letter_18 w10 (EV.nm (fun σ13 e14 => ?_))
  have h := h σ13 e14
  have w15 := tr_hs (hs_setI_of e14) w10
  have w16 := tr_hs (hs_setI_of e14) w11
  have g17 := tr_gr (gr_setI_of e14) g12
  exact EV.vret rfl dX9_letter_21 h
theorem eX9_letter {Γ : Gm} {d : Nat} {σ : AH} {Q : Oc → AH → Prop} {v0 : Nat} {v1 : Int32} (h : hs σ v0 = some (7, 27) ∧ ∃ t2 : Nat, gr σ v0 3 = some t2 ∧ ∃ n5 : Nat, hs σ t2 = some (20, n5) ∧ ∃ j6 : Nat, IX (gi σ v0 4) n5 j6 ∧ ∀ σ8 : AH, σ8 = setI σ t2 j6 (vp_nar .byte (Int8.toInt32 (Int32.toInt8 v1))) → ∀ σ13 : AH, σ13 = setI σ8 v0 4 ((gi σ8 v0 4) + 1) → Q (.inl none) σ13) : RUN Γ d MX9_letter [.ref v0, .int v1] σ Q :=
  EV.enter [some (.ref v0), some (.int v1)] rfl (by decide +kernel) (Nat.le_of_ble_eq_true rfl) rfl (gX9_letter_0 h)
theorem gX9_outputByte_0 {Γ : Gm} {d : Nat} {σ : AH} {Q : Oc → AH → Prop} {v0 : Nat} {v1 : Int32} (h : hs σ v0 = some (7, 27) ∧ ∀ σ2 : AH, σ2 = setI σ v0 0 0 → ((v1 < 0 → EV Γ MX9_outputByte d 26 [some (.ref v0), none] [] σ2 Q) ∧ (¬ v1 < 0 → (((gi σ2 v0 4) ≤ v1 → EV Γ MX9_outputByte d 26 [some (.ref v0), none] [] σ2 Q) ∧ (¬ (gi σ2 v0 4) ≤ v1 → ∃ t7 : Nat, gr σ2 v0 3 = some t7 ∧ ∃ n10 : Nat, hs σ2 t7 = some (20, n10) ∧ ∃ j11 : Nat, IX v1 n10 j11 ∧ Q (.inl (some (.int (gi σ2 t7 j11)))) σ2))))) : EV Γ MX9_outputByte d 0 [some (.ref v0), some (.int v1)] [] σ Q := by
  refine EV.aload_n 1 rfl 0 rfl rfl dX9_outputByte_0 ?_
  refine EV.iconst 2 rfl dX9_outputByte_1 (v := 0) (by decide) ?_
  obtain ⟨w1, h⟩ := h
  refine EV.putI 5 rfl fw_X9_62 rfl (by decide) dX9_outputByte_2 w1 (EV.nm (fun σ2 e3 => ?_))
  have h := h σ2 e3
  have w4 := tr_hs (hs_setI_of e3) w1
  refine EV.iload_n 6 rfl 1 rfl rfl dX9_outputByte_5 ?_
  refine EV.if_lt 9 26 rfl (by decide) dX9_outputByte_6 (fun c5 => ?_) (fun c5 => ?_)
  · have h := h.1 c5
    refine EV.mask [true, false] (L' := [some (.ref v0), none]) rfl ?_
    exact h
  · have h := h.2 c5
    refine EV.iload_n 10 rfl 1 rfl rfl dX9_outputByte_9 ?_
    refine EV.aload_n 11 rfl 0 rfl rfl dX9_outputByte_10 ?_
    refine EV.getI 14 rfl fl_X9_231 rfl dX9_outputByte_11 w4 ?_
    refine EV.icmp_ge 17 26 rfl (by decide) dX9_outputByte_14 (fun c6 => ?_) (fun c6 => ?_)
    · have h := h.1 c6
      refine EV.mask [true, false] (L' := [some (.ref v0), none]) rfl ?_
      exact h
    · have h := h.2 c6
      refine EV.aload_n 18 rfl 0 rfl rfl dX9_outputByte_17 ?_
      obtain ⟨t7, g8, h⟩ := h
      refine EV.getR 21 rfl fl_X9_13 rfl dX9_outputByte_18 w4 g8 ?_
      refine EV.iload_n 22 rfl 1 rfl rfl dX9_outputByte_21 ?_
      obtain ⟨n10, w9, h⟩ := h
      obtain ⟨j11, x12, h⟩ := h
      refine EV.bald 23 rfl dX9_outputByte_22 w9 x12 ?_
      refine EV.goto 31 (by decide) dX9_outputByte_23 ?_
      exact EV.iret rfl dX9_outputByte_31 h
theorem eX9_outputByte {Γ : Gm} {d : Nat} {σ : AH} {Q : Oc → AH → Prop} {v0 : Nat} {v1 : Int32} (h : hs σ v0 = some (7, 27) ∧ ∀ σ2 : AH, σ2 = setI σ v0 0 0 → ((v1 < 0 → EV Γ MX9_outputByte d 26 [some (.ref v0), none] [] σ2 Q) ∧ (¬ v1 < 0 → (((gi σ2 v0 4) ≤ v1 → EV Γ MX9_outputByte d 26 [some (.ref v0), none] [] σ2 Q) ∧ (¬ (gi σ2 v0 4) ≤ v1 → ∃ t7 : Nat, gr σ2 v0 3 = some t7 ∧ ∃ n10 : Nat, hs σ2 t7 = some (20, n10) ∧ ∃ j11 : Nat, IX v1 n10 j11 ∧ Q (.inl (some (.int (gi σ2 t7 j11)))) σ2))))) : RUN Γ d MX9_outputByte [.ref v0, .int v1] σ Q :=
  EV.enter [some (.ref v0), some (.int v1)] rfl (by decide +kernel) (Nat.le_of_ble_eq_true rfl) rfl (gX9_outputByte_0 h)
theorem gX9_outputByte_26 {Γ : Gm} {d : Nat} {σ : AH} {Q : Oc → AH → Prop} {v0 : Nat} (h : hs σ v0 = some (7, 27) ∧ CI Γ d MX9_fail [.ref v0, .int 1] σ (fun r2 σ1 => Q (.inl (some (.int r2))) σ1) (fun E σ1 => Q (.inr E) σ1)) : EV Γ MX9_outputByte d 26 [some (.ref v0), none] [] σ Q := by
  refine EV.aload_n 27 rfl 0 rfl rfl dX9_outputByte_26 ?_
  refine EV.iconst 28 rfl dX9_outputByte_27 (v := 1) (by decide) ?_
  obtain ⟨w3, h⟩ := h
  refine EV.cV rfl rfl lk_X9_139 rfl (vs := [.int 1]) (st := []) rfl rfl (Nat.le_of_ble_eq_true rfl) dX9_outputByte_28 w3 h (fun v σ1 h => ?_)
  obtain ⟨r2, rfl, h⟩ := h
  show EV Γ MX9_outputByte d 31 [some (.ref v0), none] [.int r2] σ1 Q
  exact EV.iret rfl dX9_outputByte_31 h
theorem gX9_isMask_0 {Γ : Gm} {d : Nat} {σ : AH} {Q : Oc → AH → Prop} {v0 : Int32} (h : ((v0 < 0 → Q (.inl (some (.int 0))) σ) ∧ (¬ v0 < 0 → ((4096 ≤ v0 → Q (.inl (some (.int 0))) σ) ∧ (¬ 4096 ≤ v0 → Q (.inl (some (.int 1))) σ))))) : EV Γ MX9_isMask d 0 [some (.int v0)] [] σ Q := by
  refine EV.iload_n 1 rfl 0 rfl rfl dX9_isMask_0 ?_
  refine EV.if_lt 4 15 rfl (by decide) dX9_isMask_1 (fun c1 => ?_) (fun c1 => ?_)
  · have h := h.1 c1
    refine EV.iconst 16 rfl dX9_isMask_15 (v := 0) (by decide) ?_
    exact EV.zret rfl rfl dX9_isMask_16 h
  · have h := h.2 c1
    refine EV.iload_n 5 rfl 0 rfl rfl dX9_isMask_4 ?_
    refine EV.sipush 8 rfl dX9_isMask_5 (v := 4096) (by decide) ?_
    refine EV.icmp_ge 11 15 rfl (by decide) dX9_isMask_8 (fun c2 => ?_) (fun c2 => ?_)
    · have h := h.1 c2
      refine EV.iconst 16 rfl dX9_isMask_15 (v := 0) (by decide) ?_
      exact EV.zret rfl rfl dX9_isMask_16 h
    · have h := h.2 c2
      refine EV.iconst 12 rfl dX9_isMask_11 (v := 1) (by decide) ?_
      refine EV.goto 16 (by decide) dX9_isMask_12 ?_
      exact EV.zret rfl rfl dX9_isMask_16 h
theorem eX9_isMask {Γ : Gm} {d : Nat} {σ : AH} {Q : Oc → AH → Prop} {v0 : Int32} (h : ((v0 < 0 → Q (.inl (some (.int 0))) σ) ∧ (¬ v0 < 0 → ((4096 ≤ v0 → Q (.inl (some (.int 0))) σ) ∧ (¬ 4096 ≤ v0 → Q (.inl (some (.int 1))) σ))))) : RUN Γ d MX9_isMask [.int v0] σ Q :=
  EV.enter [some (.int v0)] rfl (by decide +kernel) (Nat.le_of_ble_eq_true rfl) rfl (gX9_isMask_0 h)
theorem gX9_isElement_0 {Γ : Gm} {d : Nat} {σ : AH} {Q : Oc → AH → Prop} {v0 : Int32} (h : ((v0 < 0 → Q (.inl (some (.int 0))) σ) ∧ (¬ v0 < 0 → ((12 ≤ v0 → Q (.inl (some (.int 0))) σ) ∧ (¬ 12 ≤ v0 → Q (.inl (some (.int 1))) σ))))) : EV Γ MX9_isElement d 0 [some (.int v0)] [] σ Q := by
  refine EV.iload_n 1 rfl 0 rfl rfl dX9_isElement_0 ?_
  refine EV.if_lt 4 14 rfl (by decide) dX9_isElement_1 (fun c1 => ?_) (fun c1 => ?_)
  · have h := h.1 c1
    refine EV.iconst 15 rfl dX9_isElement_14 (v := 0) (by decide) ?_
    exact EV.zret rfl rfl dX9_isElement_15 h
  · have h := h.2 c1
    refine EV.iload_n 5 rfl 0 rfl rfl dX9_isElement_4 ?_
    refine EV.bipush 7 rfl dX9_isElement_5 (v := 12) (by decide) ?_
    refine EV.icmp_ge 10 14 rfl (by decide) dX9_isElement_7 (fun c2 => ?_) (fun c2 => ?_)
    · have h := h.1 c2
      refine EV.iconst 15 rfl dX9_isElement_14 (v := 0) (by decide) ?_
      exact EV.zret rfl rfl dX9_isElement_15 h
    · have h := h.2 c2
      refine EV.iconst 11 rfl dX9_isElement_10 (v := 1) (by decide) ?_
      refine EV.goto 15 (by decide) dX9_isElement_11 ?_
      exact EV.zret rfl rfl dX9_isElement_15 h
theorem eX9_isElement {Γ : Gm} {d : Nat} {σ : AH} {Q : Oc → AH → Prop} {v0 : Int32} (h : ((v0 < 0 → Q (.inl (some (.int 0))) σ) ∧ (¬ v0 < 0 → ((12 ≤ v0 → Q (.inl (some (.int 0))) σ) ∧ (¬ 12 ≤ v0 → Q (.inl (some (.int 1))) σ))))) : RUN Γ d MX9_isElement [.int v0] σ Q :=
  EV.enter [some (.int v0)] rfl (by decide +kernel) (Nat.le_of_ble_eq_true rfl) rfl (gX9_isElement_0 h)
theorem gX9_single_0 {Γ : Gm} {d : Nat} {σ : AH} {Q : Oc → AH → Prop} {v0 : Nat} {v1 : Int32} (h : hs σ v0 = some (7, 27) ∧ ∀ σ2 : AH, σ2 = setI σ v0 0 0 → CI Γ d MX9_isMask [.int v1] σ2 (fun r6 σ5 => ((r6 ≠ 0 → hs σ5 v0 = some (7, 27) ∧ (((gi σ5 v0 6) ≠ 200 → ∃ t10 : Nat, gr σ5 v0 15 = some t10 ∧ CV Γ d MX9_clear [.ref t10, .int 0] σ5 (fun σ12 => hs σ12 v0 = some (7, 27) ∧ ∃ t15 : Nat, gr σ12 v0 15 = some t15 ∧ CV Γ d MX9_put [.ref t15, .int 0, .int v1] σ12 (fun σ17 => hs σ17 v0 = some (7, 27) ∧ CI Γ d MX9_made [.ref v0] σ17 (fun r20 σ19 => Q (.inl (some (.int r20))) σ19) (fun E σ19 => Q (.inr E) σ19)) (fun _ _ => False)) (fun _ _ => False)) ∧ ((gi σ5 v0 6) = 200 → CI Γ d MX9_fail [.ref v0, .int 2] σ5 (fun r23 σ22 => Q (.inl (some (.int r23))) σ22) (fun E σ22 => Q (.inr E) σ22)))) ∧ (r6 = 0 → hs σ5 v0 = some (7, 27) ∧ CI Γ d MX9_fail [.ref v0, .int 1] σ5 (fun r25 σ24 => Q (.inl (some (.int r25))) σ24) (fun E σ24 => Q (.inr E) σ24)))) (fun _ _ => False)) : EV Γ MX9_single d 0 [some (.ref v0), some (.int v1)] [] σ Q := by
  refine EV.aload_n 1 rfl 0 rfl rfl dX9_single_0 ?_
  refine EV.iconst 2 rfl dX9_single_1 (v := 0) (by decide) ?_
  obtain ⟨w1, h⟩ := h
  refine EV.putI 5 rfl fw_X9_62 rfl (by decide) dX9_single_2 w1 (EV.nm (fun σ2 e3 => ?_))
  have h := h σ2 e3
  have w4 := tr_hs (hs_setI_of e3) w1
  refine EV.iload_n 6 rfl 1 rfl rfl dX9_single_5 ?_
  refine EV.cS rfl lk_X9_237 rfl (vs := [.int v1]) (st := []) rfl rfl (Nat.le_of_ble_eq_true rfl) dX9_single_6 h (fun v σ5 h => ?_)
  obtain ⟨r6, rfl, h⟩ := h
  show EV Γ MX9_single d 9 [some (.ref v0), some (.int v1)] [.int r6] σ5 Q
  refine EV.if_ne 12 18 rfl (by decide) dX9_single_9 (fun c7 => ?_) (fun c7 => ?_)
  · have h := h.1 c7
    refine EV.aload_n 19 rfl 0 rfl rfl dX9_single_18 ?_
    obtain ⟨w8, h⟩ := h
    refine EV.getI 22 rfl fl_X9_133 rfl dX9_single_19 w8 ?_
    refine EV.sipush 25 rfl dX9_single_22 (v := 200) (by decide) ?_
    refine EV.icmp_ne 28 34 rfl (by decide) dX9_single_25 (fun c9 => ?_) (fun c9 => ?_)
    · have h := h.1 c9
      refine EV.aload_n 35 rfl 0 rfl rfl dX9_single_34 ?_
      obtain ⟨t10, g11, h⟩ := h
      refine EV.getR 38 rfl fl_X9_41 rfl dX9_single_35 w8 g11 ?_
      refine EV.iconst 39 rfl dX9_single_38 (v := 0) (by decide) ?_
      refine EV.cS rfl lk_X9_69 rfl (vs := [.ref t10, .int 0]) (st := []) rfl rfl (Nat.le_of_ble_eq_true rfl) dX9_single_39 h (fun v σ12 h => ?_)
      obtain ⟨rfl, h⟩ := h
      show EV Γ MX9_single d 42 [some (.ref v0), some (.int v1)] [] σ12 Q
      refine EV.aload_n 43 rfl 0 rfl rfl dX9_single_42 ?_
      obtain ⟨w14, h⟩ := h
      obtain ⟨t15, g16, h⟩ := h
      refine EV.getR 46 rfl fl_X9_41 rfl dX9_single_43 w14 g16 ?_
      refine EV.iconst 47 rfl dX9_single_46 (v := 0) (by decide) ?_
      refine EV.iload_n 48 rfl 1 rfl rfl dX9_single_47 ?_
      refine EV.cS rfl lk_X9_98 rfl (vs := [.ref t15, .int 0, .int v1]) (st := []) rfl rfl (Nat.le_of_ble_eq_true rfl) dX9_single_48 h (fun v σ17 h => ?_)
      obtain ⟨rfl, h⟩ := h
      show EV Γ MX9_single d 51 [some (.ref v0), some (.int v1)] [] σ17 Q
      refine EV.aload_n 52 rfl 0 rfl rfl dX9_single_51 ?_
      obtain ⟨w21, h⟩ := h
      refine EV.cV rfl rfl lk_X9_204 rfl (vs := []) (st := []) rfl rfl (Nat.le_of_ble_eq_true rfl) dX9_single_52 w21 h (fun v σ19 h => ?_)
      obtain ⟨r20, rfl, h⟩ := h
      show EV Γ MX9_single d 55 [some (.ref v0), some (.int v1)] [.int r20] σ19 Q
      exact EV.iret rfl dX9_single_55 h
    · have h := h.2 c9
      refine EV.aload_n 29 rfl 0 rfl rfl dX9_single_28 ?_
      refine EV.iconst 30 rfl dX9_single_29 (v := 2) (by decide) ?_
      refine EV.cV rfl rfl lk_X9_139 rfl (vs := [.int 2]) (st := []) rfl rfl (Nat.le_of_ble_eq_true rfl) dX9_single_30 w8 h (fun v σ22 h => ?_)
      obtain ⟨r23, rfl, h⟩ := h
      show EV Γ MX9_single d 33 [some (.ref v0), some (.int v1)] [.int r23] σ22 Q
      exact EV.iret rfl dX9_single_33 h
  · have h := h.2 c7
    refine EV.aload_n 13 rfl 0 rfl rfl dX9_single_12 ?_
    refine EV.iconst 14 rfl dX9_single_13 (v := 1) (by decide) ?_
    obtain ⟨w26, h⟩ := h
    refine EV.cV rfl rfl lk_X9_139 rfl (vs := [.int 1]) (st := []) rfl rfl (Nat.le_of_ble_eq_true rfl) dX9_single_14 w26 h (fun v σ24 h => ?_)
    obtain ⟨r25, rfl, h⟩ := h
    show EV Γ MX9_single d 17 [some (.ref v0), some (.int v1)] [.int r25] σ24 Q
    exact EV.iret rfl dX9_single_17 h
theorem eX9_single {Γ : Gm} {d : Nat} {σ : AH} {Q : Oc → AH → Prop} {v0 : Nat} {v1 : Int32} (h : hs σ v0 = some (7, 27) ∧ ∀ σ2 : AH, σ2 = setI σ v0 0 0 → CI Γ d MX9_isMask [.int v1] σ2 (fun r6 σ5 => ((r6 ≠ 0 → hs σ5 v0 = some (7, 27) ∧ (((gi σ5 v0 6) ≠ 200 → ∃ t10 : Nat, gr σ5 v0 15 = some t10 ∧ CV Γ d MX9_clear [.ref t10, .int 0] σ5 (fun σ12 => hs σ12 v0 = some (7, 27) ∧ ∃ t15 : Nat, gr σ12 v0 15 = some t15 ∧ CV Γ d MX9_put [.ref t15, .int 0, .int v1] σ12 (fun σ17 => hs σ17 v0 = some (7, 27) ∧ CI Γ d MX9_made [.ref v0] σ17 (fun r20 σ19 => Q (.inl (some (.int r20))) σ19) (fun E σ19 => Q (.inr E) σ19)) (fun _ _ => False)) (fun _ _ => False)) ∧ ((gi σ5 v0 6) = 200 → CI Γ d MX9_fail [.ref v0, .int 2] σ5 (fun r23 σ22 => Q (.inl (some (.int r23))) σ22) (fun E σ22 => Q (.inr E) σ22)))) ∧ (r6 = 0 → hs σ5 v0 = some (7, 27) ∧ CI Γ d MX9_fail [.ref v0, .int 1] σ5 (fun r25 σ24 => Q (.inl (some (.int r25))) σ24) (fun E σ24 => Q (.inr E) σ24)))) (fun _ _ => False)) : RUN Γ d MX9_single [.ref v0, .int v1] σ Q :=
  EV.enter [some (.ref v0), some (.int v1)] rfl (by decide +kernel) (Nat.le_of_ble_eq_true rfl) rfl (gX9_single_0 h)
theorem gX9_subsetsOf_0 {Γ : Gm} {d : Nat} {σ : AH} {Q : Oc → AH → Prop} {v0 : Nat} {v1 : Int32} {v2 : Int32} (h : hs σ v0 = some (7, 27) ∧ ∀ σ2 : AH, σ2 = setI σ v0 0 0 → CI Γ d MX9_isMask [.int v1] σ2 (fun r6 σ5 => ((r6 = 0 → EV Γ MX9_subsetsOf d 23 [some (.ref v0), none, none, none] [] σ5 Q) ∧ (¬ r6 = 0 → ((v2 < (-1) → EV Γ MX9_subsetsOf d 23 [some (.ref v0), none, none, none] [] σ5 Q) ∧ (¬ v2 < (-1) → ((v2 ≤ 12 → hs σ5 v0 = some (7, 27) ∧ (((gi σ5 v0 6) ≠ 200 → ∃ t12 : Nat, gr σ5 v0 15 = some t12 ∧ CV Γ d MX9_clear [.ref t12, .int 0] σ5 (fun σ14 => EV Γ MX9_subsetsOf d 55 [some (.ref v0), some (.int v1), some (.int v2), some (.int 0)] [] σ14 Q) (fun _ _ => False)) ∧ ((gi σ5 v0 6) = 200 → CI Γ d MX9_fail [.ref v0, .int 2] σ5 (fun r17 σ16 => Q (.inl (some (.int r17))) σ16) (fun E σ16 => Q (.inr E) σ16)))) ∧ (¬ v2 ≤ 12 → EV Γ MX9_subsetsOf d 23 [some (.ref v0), none, none, none] [] σ5 Q))))))) (fun _ _ => False)) : EV Γ MX9_subsetsOf d 0 [some (.ref v0), some (.int v1), some (.int v2), none] [] σ Q := by
  refine EV.aload_n 1 rfl 0 rfl rfl dX9_subsetsOf_0 ?_
  refine EV.iconst 2 rfl dX9_subsetsOf_1 (v := 0) (by decide) ?_
  obtain ⟨w1, h⟩ := h
  refine EV.putI 5 rfl fw_X9_62 rfl (by decide) dX9_subsetsOf_2 w1 (EV.nm (fun σ2 e3 => ?_))
  have h := h σ2 e3
  have w4 := tr_hs (hs_setI_of e3) w1
  refine EV.iload_n 6 rfl 1 rfl rfl dX9_subsetsOf_5 ?_
  refine EV.cS rfl lk_X9_237 rfl (vs := [.int v1]) (st := []) rfl rfl (Nat.le_of_ble_eq_true rfl) dX9_subsetsOf_6 h (fun v σ5 h => ?_)
  obtain ⟨r6, rfl, h⟩ := h
  show EV Γ MX9_subsetsOf d 9 [some (.ref v0), some (.int v1), some (.int v2), none] [.int r6] σ5 Q
  refine EV.if_eq 12 23 rfl (by decide) dX9_subsetsOf_9 (fun c7 => ?_) (fun c7 => ?_)
  · have h := h.1 c7
    refine EV.mask [true, false, false, false] (L' := [some (.ref v0), none, none, none]) rfl ?_
    exact h
  · have h := h.2 c7
    refine EV.iload_n 13 rfl 2 rfl rfl dX9_subsetsOf_12 ?_
    refine EV.iconst 14 rfl dX9_subsetsOf_13 (v := (-1)) (by decide) ?_
    refine EV.icmp_lt 17 23 rfl (by decide) dX9_subsetsOf_14 (fun c8 => ?_) (fun c8 => ?_)
    · have h := h.1 c8
      refine EV.mask [true, false, false, false] (L' := [some (.ref v0), none, none, none]) rfl ?_
      exact h
    · have h := h.2 c8
      refine EV.iload_n 18 rfl 2 rfl rfl dX9_subsetsOf_17 ?_
      refine EV.bipush 20 rfl dX9_subsetsOf_18 (v := 12) (by decide) ?_
      refine EV.icmp_le 23 29 rfl (by decide) dX9_subsetsOf_20 (fun c9 => ?_) (fun c9 => ?_)
      · have h := h.1 c9
        refine EV.aload_n 30 rfl 0 rfl rfl dX9_subsetsOf_29 ?_
        obtain ⟨w10, h⟩ := h
        refine EV.getI 33 rfl fl_X9_133 rfl dX9_subsetsOf_30 w10 ?_
        refine EV.sipush 36 rfl dX9_subsetsOf_33 (v := 200) (by decide) ?_
        refine EV.icmp_ne 39 45 rfl (by decide) dX9_subsetsOf_36 (fun c11 => ?_) (fun c11 => ?_)
        · have h := h.1 c11
          refine EV.aload_n 46 rfl 0 rfl rfl dX9_subsetsOf_45 ?_
          obtain ⟨t12, g13, h⟩ := h
          refine EV.getR 49 rfl fl_X9_41 rfl dX9_subsetsOf_46 w10 g13 ?_
          refine EV.iconst 50 rfl dX9_subsetsOf_49 (v := 0) (by decide) ?_
          refine EV.cS rfl lk_X9_69 rfl (vs := [.ref t12, .int 0]) (st := []) rfl rfl (Nat.le_of_ble_eq_true rfl) dX9_subsetsOf_50 h (fun v σ14 h => ?_)
          obtain ⟨rfl, h⟩ := h
          show EV Γ MX9_subsetsOf d 53 [some (.ref v0), some (.int v1), some (.int v2), none] [] σ14 Q
          refine EV.iconst 54 rfl dX9_subsetsOf_53 (v := 0) (by decide) ?_
          refine EV.istore_n 55 rfl 3 [some (.ref v0), some (.int v1), some (.int v2), some (.int 0)] rfl (by decide) rfl dX9_subsetsOf_54 ?_
          exact h
        · have h := h.2 c11
          refine EV.aload_n 40 rfl 0 rfl rfl dX9_subsetsOf_39 ?_
          refine EV.iconst 41 rfl dX9_subsetsOf_40 (v := 2) (by decide) ?_
          refine EV.cV rfl rfl lk_X9_139 rfl (vs := [.int 2]) (st := []) rfl rfl (Nat.le_of_ble_eq_true rfl) dX9_subsetsOf_41 w10 h (fun v σ16 h => ?_)
          obtain ⟨r17, rfl, h⟩ := h
          show EV Γ MX9_subsetsOf d 44 [some (.ref v0), some (.int v1), some (.int v2), none] [.int r17] σ16 Q
          exact EV.iret rfl dX9_subsetsOf_44 h
      · have h := h.2 c9
        refine EV.mask [true, false, false, false] (L' := [some (.ref v0), none, none, none]) rfl ?_
        exact h
theorem eX9_subsetsOf {Γ : Gm} {d : Nat} {σ : AH} {Q : Oc → AH → Prop} {v0 : Nat} {v1 : Int32} {v2 : Int32} (h : hs σ v0 = some (7, 27) ∧ ∀ σ2 : AH, σ2 = setI σ v0 0 0 → CI Γ d MX9_isMask [.int v1] σ2 (fun r6 σ5 => ((r6 = 0 → EV Γ MX9_subsetsOf d 23 [some (.ref v0), none, none, none] [] σ5 Q) ∧ (¬ r6 = 0 → ((v2 < (-1) → EV Γ MX9_subsetsOf d 23 [some (.ref v0), none, none, none] [] σ5 Q) ∧ (¬ v2 < (-1) → ((v2 ≤ 12 → hs σ5 v0 = some (7, 27) ∧ (((gi σ5 v0 6) ≠ 200 → ∃ t12 : Nat, gr σ5 v0 15 = some t12 ∧ CV Γ d MX9_clear [.ref t12, .int 0] σ5 (fun σ14 => EV Γ MX9_subsetsOf d 55 [some (.ref v0), some (.int v1), some (.int v2), some (.int 0)] [] σ14 Q) (fun _ _ => False)) ∧ ((gi σ5 v0 6) = 200 → CI Γ d MX9_fail [.ref v0, .int 2] σ5 (fun r17 σ16 => Q (.inl (some (.int r17))) σ16) (fun E σ16 => Q (.inr E) σ16)))) ∧ (¬ v2 ≤ 12 → EV Γ MX9_subsetsOf d 23 [some (.ref v0), none, none, none] [] σ5 Q))))))) (fun _ _ => False)) : RUN Γ d MX9_subsetsOf [.ref v0, .int v1, .int v2] σ Q :=
  EV.enter [some (.ref v0), some (.int v1), some (.int v2), none] rfl (by decide +kernel) (Nat.le_of_ble_eq_true rfl) rfl (gX9_subsetsOf_0 h)
theorem gX9_subsetsOf_23 {Γ : Gm} {d : Nat} {σ : AH} {Q : Oc → AH → Prop} {v0 : Nat} (h : hs σ v0 = some (7, 27) ∧ CI Γ d MX9_fail [.ref v0, .int 1] σ (fun r2 σ1 => Q (.inl (some (.int r2))) σ1) (fun E σ1 => Q (.inr E) σ1)) : EV Γ MX9_subsetsOf d 23 [some (.ref v0), none, none, none] [] σ Q := by
  refine EV.aload_n 24 rfl 0 rfl rfl dX9_subsetsOf_23 ?_
  refine EV.iconst 25 rfl dX9_subsetsOf_24 (v := 1) (by decide) ?_
  obtain ⟨w3, h⟩ := h
  refine EV.cV rfl rfl lk_X9_139 rfl (vs := [.int 1]) (st := []) rfl rfl (Nat.le_of_ble_eq_true rfl) dX9_subsetsOf_25 w3 h (fun v σ1 h => ?_)
  obtain ⟨r2, rfl, h⟩ := h
  show EV Γ MX9_subsetsOf d 28 [some (.ref v0), none, none, none] [.int r2] σ1 Q
  exact EV.iret rfl dX9_subsetsOf_28 h
theorem gX9_subsetsOf_55 {Γ : Gm} {d : Nat} {σ : AH} {Q : Oc → AH → Prop} {v0 : Nat} {v1 : Int32} {v2 : Int32} {v3 : Int32} (h : ((4096 ≤ v3 → hs σ v0 = some (7, 27) ∧ CI Γ d MX9_made [.ref v0] σ (fun r3 σ2 => Q (.inl (some (.int r3))) σ2) (fun E σ2 => Q (.inr E) σ2)) ∧ (¬ 4096 ≤ v3 → (((v3 &&& (v1 ^^^ (-1))) ≠ 0 → EV Γ MX9_subsetsOf d 55 [some (.ref v0), some (.int v1), some (.int v2), some (.int (v3 + 1))] [] σ Q) ∧ ((v3 &&& (v1 ^^^ (-1))) = 0 → ((v2 < 0 → EV Γ MX9_subsetsOf d 82 [some (.ref v0), some (.int v1), some (.int v2), some (.int v3)] [] σ Q) ∧ (¬ v2 < 0 → CI Γ d MX9_elementsIn [.int v3] σ (fun r8 σ7 => ((r8 ≠ v2 → EV Γ MX9_subsetsOf d 55 [some (.ref v0), some (.int v1), some (.int v2), some (.int (v3 + 1))] [] σ7 Q) ∧ (r8 = v2 → EV Γ MX9_subsetsOf d 82 [some (.ref v0), some (.int v1), some (.int v2), some (.int v3)] [] σ7 Q))) (fun _ _ => False)))))))) : EV Γ MX9_subsetsOf d 55 [some (.ref v0), some (.int v1), some (.int v2), some (.int v3)] [] σ Q := by
  refine EV.iload_n 56 rfl 3 rfl rfl dX9_subsetsOf_55 ?_
  refine EV.sipush 59 rfl dX9_subsetsOf_56 (v := 4096) (by decide) ?_
  refine EV.icmp_ge 62 97 rfl (by decide) dX9_subsetsOf_59 (fun c1 => ?_) (fun c1 => ?_)
  · have h := h.1 c1
    refine EV.aload_n 98 rfl 0 rfl rfl dX9_subsetsOf_97 ?_
    obtain ⟨w4, h⟩ := h
    refine EV.cV rfl rfl lk_X9_204 rfl (vs := []) (st := []) rfl rfl (Nat.le_of_ble_eq_true rfl) dX9_subsetsOf_98 w4 h (fun v σ2 h => ?_)
    obtain ⟨r3, rfl, h⟩ := h
    show EV Γ MX9_subsetsOf d 101 [some (.ref v0), some (.int v1), some (.int v2), some (.int v3)] [.int r3] σ2 Q
    exact EV.iret rfl dX9_subsetsOf_101 h
  · have h := h.2 c1
    refine EV.iload_n 63 rfl 3 rfl rfl dX9_subsetsOf_62 ?_
    refine EV.iload_n 64 rfl 1 rfl rfl dX9_subsetsOf_63 ?_
    refine EV.iconst 65 rfl dX9_subsetsOf_64 (v := (-1)) (by decide) ?_
    refine EV.ixor 66 rfl dX9_subsetsOf_65 ?_
    refine EV.iand 67 rfl dX9_subsetsOf_66 ?_
    refine EV.if_ne 70 91 rfl (by decide) dX9_subsetsOf_67 (fun c5 => ?_) (fun c5 => ?_)
    · have h := h.1 c5
      refine EV.iinc 94 rfl [some (.ref v0), some (.int v1), some (.int v2), some (.int (v3 + 1))] (v := 1) (by decide) (by decide) rfl rfl dX9_subsetsOf_91 ?_
      refine EV.goto 55 (by decide) dX9_subsetsOf_94 ?_
      exact h
    · have h := h.2 c5
      refine EV.iload_n 71 rfl 2 rfl rfl dX9_subsetsOf_70 ?_
      refine EV.if_lt 74 82 rfl (by decide) dX9_subsetsOf_71 (fun c6 => ?_) (fun c6 => ?_)
      · have h := h.1 c6
        exact h
      · have h := h.2 c6
        refine EV.iload_n 75 rfl 3 rfl rfl dX9_subsetsOf_74 ?_
        refine EV.cS rfl lk_X9_228 rfl (vs := [.int v3]) (st := []) rfl rfl (Nat.le_of_ble_eq_true rfl) dX9_subsetsOf_75 h (fun v σ7 h => ?_)
        obtain ⟨r8, rfl, h⟩ := h
        show EV Γ MX9_subsetsOf d 78 [some (.ref v0), some (.int v1), some (.int v2), some (.int v3)] [.int r8] σ7 Q
        refine EV.iload_n 79 rfl 2 rfl rfl dX9_subsetsOf_78 ?_
        refine EV.icmp_ne 82 91 rfl (by decide) dX9_subsetsOf_79 (fun c9 => ?_) (fun c9 => ?_)
        · have h := h.1 c9
          refine EV.iinc 94 rfl [some (.ref v0), some (.int v1), some (.int v2), some (.int (v3 + 1))] (v := 1) (by decide) (by decide) rfl rfl dX9_subsetsOf_91 ?_
          refine EV.goto 55 (by decide) dX9_subsetsOf_94 ?_
          exact h
        · have h := h.2 c9
          exact h
theorem gX9_subsetsOf_82 {Γ : Gm} {d : Nat} {σ : AH} {Q : Oc → AH → Prop} {v0 : Nat} {v1 : Int32} {v2 : Int32} {v3 : Int32} (h : hs σ v0 = some (7, 27) ∧ ∃ t2 : Nat, gr σ v0 15 = some t2 ∧ CV Γ d MX9_put [.ref t2, .int 0, .int v3] σ (fun σ4 => EV Γ MX9_subsetsOf d 55 [some (.ref v0), some (.int v1), some (.int v2), some (.int (v3 + 1))] [] σ4 Q) (fun _ _ => False)) : EV Γ MX9_subsetsOf d 82 [some (.ref v0), some (.int v1), some (.int v2), some (.int v3)] [] σ Q := by
  refine EV.aload_n 83 rfl 0 rfl rfl dX9_subsetsOf_82 ?_
  obtain ⟨w1, h⟩ := h
  obtain ⟨t2, g3, h⟩ := h
  refine EV.getR 86 rfl fl_X9_41 rfl dX9_subsetsOf_83 w1 g3 ?_
  refine EV.iconst 87 rfl dX9_subsetsOf_86 (v := 0) (by decide) ?_
  refine EV.iload_n 88 rfl 3 rfl rfl dX9_subsetsOf_87 ?_
  refine EV.cS rfl lk_X9_98 rfl (vs := [.ref t2, .int 0, .int v3]) (st := []) rfl rfl (Nat.le_of_ble_eq_true rfl) dX9_subsetsOf_88 h (fun v σ4 h => ?_)
  obtain ⟨rfl, h⟩ := h
  show EV Γ MX9_subsetsOf d 91 [some (.ref v0), some (.int v1), some (.int v2), some (.int v3)] [] σ4 Q
  refine EV.iinc 94 rfl [some (.ref v0), some (.int v1), some (.int v2), some (.int (v3 + 1))] (v := 1) (by decide) (by decide) rfl rfl dX9_subsetsOf_91 ?_
  refine EV.goto 55 (by decide) dX9_subsetsOf_94 ?_
  exact h
theorem gX9_release_0 {Γ : Gm} {d : Nat} {σ : AH} {Q : Oc → AH → Prop} {v0 : Nat} {v1 : Int32} (h : hs σ v0 = some (7, 27) ∧ CI Γ d MX9_look_ [.ref v0, .int v1] σ (fun r2 σ1 => hs σ1 v0 = some (7, 27) ∧ ∀ σ5 : AH, σ5 = setI σ1 v0 0 r2 → (((gi σ5 v0 0) = 0 → ∃ t9 : Nat, gr σ5 v0 8 = some t9 ∧ ∃ n12 : Nat, hs σ5 t9 = some (21, n12) ∧ ∃ j13 : Nat, IX v1 n12 j13 ∧ ∀ σ15 : AH, σ15 = setI σ5 t9 j13 (vp_nar .boolean 1) → ∀ σ20 : AH, σ20 = setI σ15 v0 7 ((gi σ15 v0 7) - 1) → Q (.inl (some (.int (gi σ20 v0 7)))) σ20) ∧ (¬ (gi σ5 v0 0) = 0 → Q (.inl (some (.int 0))) σ5))) (fun E σ1 => Q (.inr E) σ1)) : EV Γ MX9_release d 0 [some (.ref v0), some (.int v1)] [] σ Q := by
  refine EV.aload_n 1 rfl 0 rfl rfl dX9_release_0 ?_
  refine EV.aload_n 2 rfl 0 rfl rfl dX9_release_1 ?_
  refine EV.iload_n 3 rfl 1 rfl rfl dX9_release_2 ?_
  obtain ⟨w3, h⟩ := h
  refine EV.cV rfl rfl lk_X9_220 rfl (vs := [.int v1]) (st := [.ref v0]) rfl rfl (Nat.le_of_ble_eq_true rfl) dX9_release_3 w3 h (fun v σ1 h => ?_)
  obtain ⟨r2, rfl, h⟩ := h
  show EV Γ MX9_release d 6 [some (.ref v0), some (.int v1)] [.int r2, .ref v0] σ1 Q
  obtain ⟨w4, h⟩ := h
  refine EV.putI 9 rfl fw_X9_62 rfl (by decide) dX9_release_6 w4 (EV.nm (fun σ5 e6 => ?_))
  have h := h σ5 e6
  have w7 := tr_hs (hs_setI_of e6) w4
  refine EV.aload_n 10 rfl 0 rfl rfl dX9_release_9 ?_
  refine EV.getI 13 rfl fl_X9_62 rfl dX9_release_10 w7 ?_
  refine EV.if_eq 16 18 rfl (by decide) dX9_release_13 (fun c8 => ?_) (fun c8 => ?_)
  · have h := h.1 c8
    refine EV.aload_n 19 rfl 0 rfl rfl dX9_release_18 ?_
    obtain ⟨t9, g10, h⟩ := h
    refine EV.getR 22 rfl fl_X9_20 rfl dX9_release_19 w7 g10 ?_
    refine EV.iload_n 23 rfl 1 rfl rfl dX9_release_22 ?_
    refine EV.iconst 24 rfl dX9_release_23 (v := 1) (by decide) ?_
    obtain ⟨n12, w11, h⟩ := h
    obtain ⟨j13, x14, h⟩ := h
    refine EV.zast 25 rfl dX9_release_24 w11 x14 (EV.nm (fun σ15 e16 => ?_))
    have h := h σ15 e16
    have w17 := tr_hs (hs_setI_of e16) w7
    have w18 := tr_hs (hs_setI_of e16) w11
    have g19 := tr_gr (gr_setI_of e16) g10
    refine EV.aload_n 26 rfl 0 rfl rfl dX9_release_25 ?_
    refine EV.dup 27 rfl dX9_release_26 rfl ?_
    refine EV.getI 30 rfl fl_X9_217 rfl dX9_release_27 w17 ?_
    refine EV.iconst 31 rfl dX9_release_30 (v := 1) (by decide) ?_
    refine EV.isub 32 rfl dX9_release_31 ?_
    refine EV.putI 35 rfl fw_X9_217 rfl (by decide) dX9_release_32 w17 (EV.nm (fun σ20 e21 => ?_))
    have h := h σ20 e21
    have w22 := tr_hs (hs_setI_of e21) w17
    have w23 := tr_hs (hs_setI_of e21) w18
    have g24 := tr_gr (gr_setI_of e21) g19
    refine EV.aload_n 36 rfl 0 rfl rfl dX9_release_35 ?_
    refine EV.getI 39 rfl fl_X9_217 rfl dX9_release_36 w22 ?_
    exact EV.iret rfl dX9_release_39 h
  · have h := h.2 c8
    refine EV.iconst 17 rfl dX9_release_16 (v := 0) (by decide) ?_
    exact EV.iret rfl dX9_release_17 h
theorem eX9_release {Γ : Gm} {d : Nat} {σ : AH} {Q : Oc → AH → Prop} {v0 : Nat} {v1 : Int32} (h : hs σ v0 = some (7, 27) ∧ CI Γ d MX9_look_ [.ref v0, .int v1] σ (fun r2 σ1 => hs σ1 v0 = some (7, 27) ∧ ∀ σ5 : AH, σ5 = setI σ1 v0 0 r2 → (((gi σ5 v0 0) = 0 → ∃ t9 : Nat, gr σ5 v0 8 = some t9 ∧ ∃ n12 : Nat, hs σ5 t9 = some (21, n12) ∧ ∃ j13 : Nat, IX v1 n12 j13 ∧ ∀ σ15 : AH, σ15 = setI σ5 t9 j13 (vp_nar .boolean 1) → ∀ σ20 : AH, σ20 = setI σ15 v0 7 ((gi σ15 v0 7) - 1) → Q (.inl (some (.int (gi σ20 v0 7)))) σ20) ∧ (¬ (gi σ5 v0 0) = 0 → Q (.inl (some (.int 0))) σ5))) (fun E σ1 => Q (.inr E) σ1)) : RUN Γ d MX9_release [.ref v0, .int v1] σ Q :=
  EV.enter [some (.ref v0), some (.int v1)] rfl (by decide +kernel) (Nat.le_of_ble_eq_true rfl) rfl (gX9_release_0 h)
theorem gX9_createdCount_0 {Γ : Gm} {d : Nat} {σ : AH} {Q : Oc → AH → Prop} {v0 : Nat} (h : hs σ v0 = some (7, 27) ∧ ∀ σ2 : AH, σ2 = setI σ v0 0 0 → Q (.inl (some (.int (gi σ2 v0 6)))) σ2) : EV Γ MX9_createdCount d 0 [some (.ref v0)] [] σ Q := by
  refine EV.aload_n 1 rfl 0 rfl rfl dX9_createdCount_0 ?_
  refine EV.iconst 2 rfl dX9_createdCount_1 (v := 0) (by decide) ?_
  obtain ⟨w1, h⟩ := h
  refine EV.putI 5 rfl fw_X9_62 rfl (by decide) dX9_createdCount_2 w1 (EV.nm (fun σ2 e3 => ?_))
  have h := h σ2 e3
  have w4 := tr_hs (hs_setI_of e3) w1
  refine EV.aload_n 6 rfl 0 rfl rfl dX9_createdCount_5 ?_
  refine EV.getI 9 rfl fl_X9_133 rfl dX9_createdCount_6 w4 ?_
  exact EV.iret rfl dX9_createdCount_9 h
theorem eX9_createdCount {Γ : Gm} {d : Nat} {σ : AH} {Q : Oc → AH → Prop} {v0 : Nat} (h : hs σ v0 = some (7, 27) ∧ ∀ σ2 : AH, σ2 = setI σ v0 0 0 → Q (.inl (some (.int (gi σ2 v0 6)))) σ2) : RUN Γ d MX9_createdCount [.ref v0] σ Q :=
  EV.enter [some (.ref v0)] rfl (by decide +kernel) (Nat.le_of_ble_eq_true rfl) rfl (gX9_createdCount_0 h)
theorem gX9_nodeCount_0 {Γ : Gm} {d : Nat} {σ : AH} {Q : Oc → AH → Prop} {v0 : Nat} (h : hs σ v0 = some (7, 27) ∧ ∀ σ2 : AH, σ2 = setI σ v0 0 0 → CI Γ d MX9_countAllNodes [.ref v0] σ2 (fun r6 σ5 => Q (.inl (some (.int r6))) σ5) (fun E σ5 => Q (.inr E) σ5)) : EV Γ MX9_nodeCount d 0 [some (.ref v0)] [] σ Q := by
  refine EV.aload_n 1 rfl 0 rfl rfl dX9_nodeCount_0 ?_
  refine EV.iconst 2 rfl dX9_nodeCount_1 (v := 0) (by decide) ?_
  obtain ⟨w1, h⟩ := h
  refine EV.putI 5 rfl fw_X9_62 rfl (by decide) dX9_nodeCount_2 w1 (EV.nm (fun σ2 e3 => ?_))
  have h := h σ2 e3
  have w4 := tr_hs (hs_setI_of e3) w1
  refine EV.aload_n 6 rfl 0 rfl rfl dX9_nodeCount_5 ?_
  refine EV.cV rfl rfl lk_X9_240 rfl (vs := []) (st := []) rfl rfl (Nat.le_of_ble_eq_true rfl) dX9_nodeCount_6 w4 h (fun v σ5 h => ?_)
  obtain ⟨r6, rfl, h⟩ := h
  show EV Γ MX9_nodeCount d 9 [some (.ref v0)] [.int r6] σ5 Q
  exact EV.iret rfl dX9_nodeCount_9 h
theorem eX9_nodeCount {Γ : Gm} {d : Nat} {σ : AH} {Q : Oc → AH → Prop} {v0 : Nat} (h : hs σ v0 = some (7, 27) ∧ ∀ σ2 : AH, σ2 = setI σ v0 0 0 → CI Γ d MX9_countAllNodes [.ref v0] σ2 (fun r6 σ5 => Q (.inl (some (.int r6))) σ5) (fun E σ5 => Q (.inr E) σ5)) : RUN Γ d MX9_nodeCount [.ref v0] σ Q :=
  EV.enter [some (.ref v0)] rfl (by decide +kernel) (Nat.le_of_ble_eq_true rfl) rfl (gX9_nodeCount_0 h)
theorem gX9_nodesOf_0 {Γ : Gm} {d : Nat} {σ : AH} {Q : Oc → AH → Prop} {v0 : Nat} {v1 : Int32} (h : hs σ v0 = some (7, 27) ∧ CI Γ d MX9_look_ [.ref v0, .int v1] σ (fun r2 σ1 => hs σ1 v0 = some (7, 27) ∧ ∀ σ5 : AH, σ5 = setI σ1 v0 0 r2 → (((gi σ5 v0 0) ≠ 0 → Q (.inl (some (.int 0))) σ5) ∧ ((gi σ5 v0 0) = 0 → CI Γ d MX9_countNodes [.ref v0, .int v1] σ5 (fun r10 σ9 => Q (.inl (some (.int r10))) σ9) (fun E σ9 => Q (.inr E) σ9)))) (fun E σ1 => Q (.inr E) σ1)) : EV Γ MX9_nodesOf d 0 [some (.ref v0), some (.int v1)] [] σ Q := by
  refine EV.aload_n 1 rfl 0 rfl rfl dX9_nodesOf_0 ?_
  refine EV.aload_n 2 rfl 0 rfl rfl dX9_nodesOf_1 ?_
  refine EV.iload_n 3 rfl 1 rfl rfl dX9_nodesOf_2 ?_
  obtain ⟨w3, h⟩ := h
  refine EV.cV rfl rfl lk_X9_220 rfl (vs := [.int v1]) (st := [.ref v0]) rfl rfl (Nat.le_of_ble_eq_true rfl) dX9_nodesOf_3 w3 h (fun v σ1 h => ?_)
  obtain ⟨r2, rfl, h⟩ := h
  show EV Γ MX9_nodesOf d 6 [some (.ref v0), some (.int v1)] [.int r2, .ref v0] σ1 Q
  obtain ⟨w4, h⟩ := h
  refine EV.putI 9 rfl fw_X9_62 rfl (by decide) dX9_nodesOf_6 w4 (EV.nm (fun σ5 e6 => ?_))
  have h := h σ5 e6
  have w7 := tr_hs (hs_setI_of e6) w4
  refine EV.aload_n 10 rfl 0 rfl rfl dX9_nodesOf_9 ?_
  refine EV.getI 13 rfl fl_X9_62 rfl dX9_nodesOf_10 w7 ?_
  refine EV.if_ne 16 24 rfl (by decide) dX9_nodesOf_13 (fun c8 => ?_) (fun c8 => ?_)
  · have h := h.1 c8
    refine EV.iconst 25 rfl dX9_nodesOf_24 (v := 0) (by decide) ?_
    exact EV.iret rfl dX9_nodesOf_25 h
  · have h := h.2 c8
    refine EV.aload_n 17 rfl 0 rfl rfl dX9_nodesOf_16 ?_
    refine EV.iload_n 18 rfl 1 rfl rfl dX9_nodesOf_17 ?_
    refine EV.cV rfl rfl lk_X9_243 rfl (vs := [.int v1]) (st := []) rfl rfl (Nat.le_of_ble_eq_true rfl) dX9_nodesOf_18 w7 h (fun v σ9 h => ?_)
    obtain ⟨r10, rfl, h⟩ := h
    show EV Γ MX9_nodesOf d 21 [some (.ref v0), some (.int v1)] [.int r10] σ9 Q
    refine EV.goto 25 (by decide) dX9_nodesOf_21 ?_
    exact EV.iret rfl dX9_nodesOf_25 h
theorem eX9_nodesOf {Γ : Gm} {d : Nat} {σ : AH} {Q : Oc → AH → Prop} {v0 : Nat} {v1 : Int32} (h : hs σ v0 = some (7, 27) ∧ CI Γ d MX9_look_ [.ref v0, .int v1] σ (fun r2 σ1 => hs σ1 v0 = some (7, 27) ∧ ∀ σ5 : AH, σ5 = setI σ1 v0 0 r2 → (((gi σ5 v0 0) ≠ 0 → Q (.inl (some (.int 0))) σ5) ∧ ((gi σ5 v0 0) = 0 → CI Γ d MX9_countNodes [.ref v0, .int v1] σ5 (fun r10 σ9 => Q (.inl (some (.int r10))) σ9) (fun E σ9 => Q (.inr E) σ9)))) (fun E σ1 => Q (.inr E) σ1)) : RUN Γ d MX9_nodesOf [.ref v0, .int v1] σ Q :=
  EV.enter [some (.ref v0), some (.int v1)] rfl (by decide +kernel) (Nat.le_of_ble_eq_true rfl) rfl (gX9_nodesOf_0 h)
theorem gX9_two_0 {Γ : Gm} {d : Nat} {σ : AH} {Q : Oc → AH → Prop} {v0 : Nat} {v1 : Int32} {v2 : Int32} {v3 : Int32} (h : hs σ v0 = some (7, 27) ∧ CI Γ d MX9_look__ [.ref v0, .int v2, .int v3] σ (fun r2 σ1 => hs σ1 v0 = some (7, 27) ∧ ∀ σ5 : AH, σ5 = setI σ1 v0 0 r2 → (((gi σ5 v0 0) = 0 → (((gi σ5 v0 6) ≠ 200 → CV Γ d MX9_load [.ref v0, .int v2, .int 0] σ5 (fun σ10 => hs σ10 v0 = some (7, 27) ∧ CV Γ d MX9_load [.ref v0, .int v3, .int 1] σ10 (fun σ12 => ((v1 = 5 → EV Γ MX9_two d 58 [some (.ref v0), some (.int v1), none, none] [] σ12 Q) ∧ (¬ v1 = 5 → ((v1 ≠ 6 → EV Γ MX9_two d 75 [some (.ref v0), some (.int v1), none, none] [] σ12 Q) ∧ (v1 = 6 → EV Γ MX9_two d 58 [some (.ref v0), some (.int v1), none, none] [] σ12 Q))))) (fun E σ12 => Q (.inr E) σ12)) (fun E σ10 => Q (.inr E) σ10)) ∧ ((gi σ5 v0 6) = 200 → CI Γ d MX9_fail [.ref v0, .int 3] σ5 (fun r18 σ17 => Q (.inl (some (.int r18))) σ17) (fun E σ17 => Q (.inr E) σ17)))) ∧ (¬ (gi σ5 v0 0) = 0 → Q (.inl (some (.int 0))) σ5))) (fun E σ1 => Q (.inr E) σ1)) : EV Γ MX9_two d 0 [some (.ref v0), some (.int v1), some (.int v2), some (.int v3)] [] σ Q := by
  refine EV.aload_n 1 rfl 0 rfl rfl dX9_two_0 ?_
  refine EV.aload_n 2 rfl 0 rfl rfl dX9_two_1 ?_
  refine EV.iload_n 3 rfl 2 rfl rfl dX9_two_2 ?_
  refine EV.iload_n 4 rfl 3 rfl rfl dX9_two_3 ?_
  obtain ⟨w3, h⟩ := h
  refine EV.cV rfl rfl lk_X9_246 rfl (vs := [.int v2, .int v3]) (st := [.ref v0]) rfl rfl (Nat.le_of_ble_eq_true rfl) dX9_two_4 w3 h (fun v σ1 h => ?_)
  obtain ⟨r2, rfl, h⟩ := h
  show EV Γ MX9_two d 7 [some (.ref v0), some (.int v1), some (.int v2), some (.int v3)] [.int r2, .ref v0] σ1 Q
  obtain ⟨w4, h⟩ := h
  refine EV.putI 10 rfl fw_X9_62 rfl (by decide) dX9_two_7 w4 (EV.nm (fun σ5 e6 => ?_))
  have h := h σ5 e6
  have w7 := tr_hs (hs_setI_of e6) w4
  refine EV.aload_n 11 rfl 0 rfl rfl dX9_two_10 ?_
  refine EV.getI 14 rfl fl_X9_62 rfl dX9_two_11 w7 ?_
  refine EV.if_eq 17 19 rfl (by decide) dX9_two_14 (fun c8 => ?_) (fun c8 => ?_)
  · have h := h.1 c8
    refine EV.aload_n 20 rfl 0 rfl rfl dX9_two_19 ?_
    refine EV.getI 23 rfl fl_X9_133 rfl dX9_two_20 w7 ?_
    refine EV.sipush 26 rfl dX9_two_23 (v := 200) (by decide) ?_
    refine EV.icmp_ne 29 35 rfl (by decide) dX9_two_26 (fun c9 => ?_) (fun c9 => ?_)
    · have h := h.1 c9
      refine EV.aload_n 36 rfl 0 rfl rfl dX9_two_35 ?_
      refine EV.iload_n 37 rfl 2 rfl rfl dX9_two_36 ?_
      refine EV.iconst 38 rfl dX9_two_37 (v := 0) (by decide) ?_
      refine EV.cV rfl rfl lk_X9_207 rfl (vs := [.int v2, .int 0]) (st := []) rfl rfl (Nat.le_of_ble_eq_true rfl) dX9_two_38 w7 h (fun v σ10 h => ?_)
      obtain ⟨rfl, h⟩ := h
      show EV Γ MX9_two d 41 [some (.ref v0), some (.int v1), some (.int v2), some (.int v3)] [] σ10 Q
      refine EV.aload_n 42 rfl 0 rfl rfl dX9_two_41 ?_
      refine EV.iload_n 43 rfl 3 rfl rfl dX9_two_42 ?_
      refine EV.iconst 44 rfl dX9_two_43 (v := 1) (by decide) ?_
      obtain ⟨w14, h⟩ := h
      refine EV.cV rfl rfl lk_X9_207 rfl (vs := [.int v3, .int 1]) (st := []) rfl rfl (Nat.le_of_ble_eq_true rfl) dX9_two_44 w14 h (fun v σ12 h => ?_)
      obtain ⟨rfl, h⟩ := h
      show EV Γ MX9_two d 47 [some (.ref v0), some (.int v1), some (.int v2), some (.int v3)] [] σ12 Q
      refine EV.iload_n 48 rfl 1 rfl rfl dX9_two_47 ?_
      refine EV.iconst 49 rfl dX9_two_48 (v := 5) (by decide) ?_
      refine EV.icmp_eq 52 58 rfl (by decide) dX9_two_49 (fun c15 => ?_) (fun c15 => ?_)
      · have h := h.1 c15
        refine EV.mask [true, true, false, false] (L' := [some (.ref v0), some (.int v1), none, none]) rfl ?_
        exact h
      · have h := h.2 c15
        refine EV.iload_n 53 rfl 1 rfl rfl dX9_two_52 ?_
        refine EV.bipush 55 rfl dX9_two_53 (v := 6) (by decide) ?_
        refine EV.icmp_ne 58 75 rfl (by decide) dX9_two_55 (fun c16 => ?_) (fun c16 => ?_)
        · have h := h.1 c16
          refine EV.mask [true, true, false, false] (L' := [some (.ref v0), some (.int v1), none, none]) rfl ?_
          exact h
        · have h := h.2 c16
          refine EV.mask [true, true, false, false] (L' := [some (.ref v0), some (.int v1), none, none]) rfl ?_
          exact h
    · have h := h.2 c9
      refine EV.aload_n 30 rfl 0 rfl rfl dX9_two_29 ?_
      refine EV.iconst 31 rfl dX9_two_30 (v := 3) (by decide) ?_
      refine EV.cV rfl rfl lk_X9_139 rfl (vs := [.int 3]) (st := []) rfl rfl (Nat.le_of_ble_eq_true rfl) dX9_two_31 w7 h (fun v σ17 h => ?_)
      obtain ⟨r18, rfl, h⟩ := h
      show EV Γ MX9_two d 34 [some (.ref v0), some (.int v1), some (.int v2), some (.int v3)] [.int r18] σ17 Q
      exact EV.iret rfl dX9_two_34 h
  · have h := h.2 c8
    refine EV.iconst 18 rfl dX9_two_17 (v := 0) (by decide) ?_
    exact EV.iret rfl dX9_two_18 h
theorem eX9_two {Γ : Gm} {d : Nat} {σ : AH} {Q : Oc → AH → Prop} {v0 : Nat} {v1 : Int32} {v2 : Int32} {v3 : Int32} (h : hs σ v0 = some (7, 27) ∧ CI Γ d MX9_look__ [.ref v0, .int v2, .int v3] σ (fun r2 σ1 => hs σ1 v0 = some (7, 27) ∧ ∀ σ5 : AH, σ5 = setI σ1 v0 0 r2 → (((gi σ5 v0 0) = 0 → (((gi σ5 v0 6) ≠ 200 → CV Γ d MX9_load [.ref v0, .int v2, .int 0] σ5 (fun σ10 => hs σ10 v0 = some (7, 27) ∧ CV Γ d MX9_load [.ref v0, .int v3, .int 1] σ10 (fun σ12 => ((v1 = 5 → EV Γ MX9_two d 58 [some (.ref v0), some (.int v1), none, none] [] σ12 Q) ∧ (¬ v1 = 5 → ((v1 ≠ 6 → EV Γ MX9_two d 75 [some (.ref v0), some (.int v1), none, none] [] σ12 Q) ∧ (v1 = 6 → EV Γ MX9_two d 58 [some (.ref v0), some (.int v1), none, none] [] σ12 Q))))) (fun E σ12 => Q (.inr E) σ12)) (fun E σ10 => Q (.inr E) σ10)) ∧ ((gi σ5 v0 6) = 200 → CI Γ d MX9_fail [.ref v0, .int 3] σ5 (fun r18 σ17 => Q (.inl (some (.int r18))) σ17) (fun E σ17 => Q (.inr E) σ17)))) ∧ (¬ (gi σ5 v0 0) = 0 → Q (.inl (some (.int 0))) σ5))) (fun E σ1 => Q (.inr E) σ1)) : RUN Γ d MX9_two [.ref v0, .int v1, .int v2, .int v3] σ Q :=
  EV.enter [some (.ref v0), some (.int v1), some (.int v2), some (.int v3)] rfl (by decide +kernel) (Nat.le_of_ble_eq_true rfl) rfl (gX9_two_0 h)
theorem gX9_two_58 {Γ : Gm} {d : Nat} {σ : AH} {Q : Oc → AH → Prop} {v0 : Nat} {v1 : Int32} (h : hs σ v0 = some (7, 27) ∧ ∃ t2 : Nat, gr σ v0 15 = some t2 ∧ CI Γ d MX9_many [.ref t2, .int 1] σ (fun r5 σ4 => ((r5 ≠ 0 → EV Γ MX9_two d 75 [some (.ref v0), some (.int v1), none, none] [] σ4 Q) ∧ (r5 = 0 → hs σ4 v0 = some (7, 27) ∧ CI Γ d MX9_fail [.ref v0, .int 4] σ4 (fun r8 σ7 => Q (.inl (some (.int r8))) σ7) (fun E σ7 => Q (.inr E) σ7)))) (fun _ _ => False)) : EV Γ MX9_two d 58 [some (.ref v0), some (.int v1), none, none] [] σ Q := by
  refine EV.aload_n 59 rfl 0 rfl rfl dX9_two_58 ?_
  obtain ⟨w1, h⟩ := h
  obtain ⟨t2, g3, h⟩ := h
  refine EV.getR 62 rfl fl_X9_41 rfl dX9_two_59 w1 g3 ?_
  refine EV.iconst 63 rfl dX9_two_62 (v := 1) (by decide) ?_
  refine EV.cS rfl lk_X9_213 rfl (vs := [.ref t2, .int 1]) (st := []) rfl rfl (Nat.le_of_ble_eq_true rfl) dX9_two_63 h (fun v σ4 h => ?_)
  obtain ⟨r5, rfl, h⟩ := h
  show EV Γ MX9_two d 66 [some (.ref v0), some (.int v1), none, none] [.int r5] σ4 Q
  refine EV.if_ne 69 75 rfl (by decide) dX9_two_66 (fun c6 => ?_) (fun c6 => ?_)
  · have h := h.1 c6
    exact h
  · have h := h.2 c6
    refine EV.aload_n 70 rfl 0 rfl rfl dX9_two_69 ?_
    refine EV.iconst 71 rfl dX9_two_70 (v := 4) (by decide) ?_
    obtain ⟨w9, h⟩ := h
    refine EV.cV rfl rfl lk_X9_139 rfl (vs := [.int 4]) (st := []) rfl rfl (Nat.le_of_ble_eq_true rfl) dX9_two_71 w9 h (fun v σ7 h => ?_)
    obtain ⟨r8, rfl, h⟩ := h
    show EV Γ MX9_two d 74 [some (.ref v0), some (.int v1), none, none] [.int r8] σ7 Q
    exact EV.iret rfl dX9_two_74 h
theorem gX9_two_75 {Γ : Gm} {d : Nat} {σ : AH} {Q : Oc → AH → Prop} {v0 : Nat} {v1 : Int32} (h : hs σ v0 = some (7, 27) ∧ CV Γ d MX9_operate [.ref v0, .int v1, .int 0, .int 1] σ (fun σ1 => hs σ1 v0 = some (7, 27) ∧ CI Γ d MX9_made [.ref v0] σ1 (fun r5 σ4 => Q (.inl (some (.int r5))) σ4) (fun E σ4 => Q (.inr E) σ4)) (fun E σ1 => Q (.inr E) σ1)) : EV Γ MX9_two d 75 [some (.ref v0), some (.int v1), none, none] [] σ Q := by
  refine EV.aload_n 76 rfl 0 rfl rfl dX9_two_75 ?_
  refine EV.iload_n 77 rfl 1 rfl rfl dX9_two_76 ?_
  refine EV.iconst 78 rfl dX9_two_77 (v := 0) (by decide) ?_
  refine EV.iconst 79 rfl dX9_two_78 (v := 1) (by decide) ?_
  obtain ⟨w3, h⟩ := h
  refine EV.cV rfl rfl lk_X9_210 rfl (vs := [.int v1, .int 0, .int 1]) (st := []) rfl rfl (Nat.le_of_ble_eq_true rfl) dX9_two_79 w3 h (fun v σ1 h => ?_)
  obtain ⟨rfl, h⟩ := h
  show EV Γ MX9_two d 82 [some (.ref v0), some (.int v1), none, none] [] σ1 Q
  refine EV.aload_n 83 rfl 0 rfl rfl dX9_two_82 ?_
  obtain ⟨w6, h⟩ := h
  refine EV.cV rfl rfl lk_X9_204 rfl (vs := []) (st := []) rfl rfl (Nat.le_of_ble_eq_true rfl) dX9_two_83 w6 h (fun v σ4 h => ?_)
  obtain ⟨r5, rfl, h⟩ := h
  show EV Γ MX9_two d 86 [some (.ref v0), some (.int v1), none, none] [.int r5] σ4 Q
  exact EV.iret rfl dX9_two_86 h
theorem gX9_one_0 {Γ : Gm} {d : Nat} {σ : AH} {Q : Oc → AH → Prop} {v0 : Nat} {v1 : Int32} {v2 : Int32} (h : hs σ v0 = some (7, 27) ∧ CI Γ d MX9_look_ [.ref v0, .int v2] σ (fun r2 σ1 => hs σ1 v0 = some (7, 27) ∧ ∀ σ5 : AH, σ5 = setI σ1 v0 0 r2 → (((gi σ5 v0 0) = 0 → (((gi σ5 v0 6) ≠ 200 → CV Γ d MX9_load [.ref v0, .int v2, .int 0] σ5 (fun σ10 => hs σ10 v0 = some (7, 27) ∧ CV Γ d MX9_operate [.ref v0, .int v1, .int 0, .int 0] σ10 (fun σ12 => hs σ12 v0 = some (7, 27) ∧ CI Γ d MX9_made [.ref v0] σ12 (fun r16 σ15 => Q (.inl (some (.int r16))) σ15) (fun E σ15 => Q (.inr E) σ15)) (fun E σ12 => Q (.inr E) σ12)) (fun E σ10 => Q (.inr E) σ10)) ∧ ((gi σ5 v0 6) = 200 → CI Γ d MX9_fail [.ref v0, .int 3] σ5 (fun r19 σ18 => Q (.inl (some (.int r19))) σ18) (fun E σ18 => Q (.inr E) σ18)))) ∧ (¬ (gi σ5 v0 0) = 0 → Q (.inl (some (.int 0))) σ5))) (fun E σ1 => Q (.inr E) σ1)) : EV Γ MX9_one d 0 [some (.ref v0), some (.int v1), some (.int v2)] [] σ Q := by
  refine EV.aload_n 1 rfl 0 rfl rfl dX9_one_0 ?_
  refine EV.aload_n 2 rfl 0 rfl rfl dX9_one_1 ?_
  refine EV.iload_n 3 rfl 2 rfl rfl dX9_one_2 ?_
  obtain ⟨w3, h⟩ := h
  refine EV.cV rfl rfl lk_X9_220 rfl (vs := [.int v2]) (st := [.ref v0]) rfl rfl (Nat.le_of_ble_eq_true rfl) dX9_one_3 w3 h (fun v σ1 h => ?_)
  obtain ⟨r2, rfl, h⟩ := h
  show EV Γ MX9_one d 6 [some (.ref v0), some (.int v1), some (.int v2)] [.int r2, .ref v0] σ1 Q
  obtain ⟨w4, h⟩ := h
  refine EV.putI 9 rfl fw_X9_62 rfl (by decide) dX9_one_6 w4 (EV.nm (fun σ5 e6 => ?_))
  have h := h σ5 e6
  have w7 := tr_hs (hs_setI_of e6) w4
  refine EV.aload_n 10 rfl 0 rfl rfl dX9_one_9 ?_
  refine EV.getI 13 rfl fl_X9_62 rfl dX9_one_10 w7 ?_
  refine EV.if_eq 16 18 rfl (by decide) dX9_one_13 (fun c8 => ?_) (fun c8 => ?_)
  · have h := h.1 c8
    refine EV.aload_n 19 rfl 0 rfl rfl dX9_one_18 ?_
    refine EV.getI 22 rfl fl_X9_133 rfl dX9_one_19 w7 ?_
    refine EV.sipush 25 rfl dX9_one_22 (v := 200) (by decide) ?_
    refine EV.icmp_ne 28 34 rfl (by decide) dX9_one_25 (fun c9 => ?_) (fun c9 => ?_)
    · have h := h.1 c9
      refine EV.aload_n 35 rfl 0 rfl rfl dX9_one_34 ?_
      refine EV.iload_n 36 rfl 2 rfl rfl dX9_one_35 ?_
      refine EV.iconst 37 rfl dX9_one_36 (v := 0) (by decide) ?_
      refine EV.cV rfl rfl lk_X9_207 rfl (vs := [.int v2, .int 0]) (st := []) rfl rfl (Nat.le_of_ble_eq_true rfl) dX9_one_37 w7 h (fun v σ10 h => ?_)
      obtain ⟨rfl, h⟩ := h
      show EV Γ MX9_one d 40 [some (.ref v0), some (.int v1), some (.int v2)] [] σ10 Q
      refine EV.aload_n 41 rfl 0 rfl rfl dX9_one_40 ?_
      refine EV.iload_n 42 rfl 1 rfl rfl dX9_one_41 ?_
      refine EV.iconst 43 rfl dX9_one_42 (v := 0) (by decide) ?_
      refine EV.iconst 44 rfl dX9_one_43 (v := 0) (by decide) ?_
      obtain ⟨w14, h⟩ := h
      refine EV.cV rfl rfl lk_X9_210 rfl (vs := [.int v1, .int 0, .int 0]) (st := []) rfl rfl (Nat.le_of_ble_eq_true rfl) dX9_one_44 w14 h (fun v σ12 h => ?_)
      obtain ⟨rfl, h⟩ := h
      show EV Γ MX9_one d 47 [some (.ref v0), some (.int v1), some (.int v2)] [] σ12 Q
      refine EV.aload_n 48 rfl 0 rfl rfl dX9_one_47 ?_
      obtain ⟨w17, h⟩ := h
      refine EV.cV rfl rfl lk_X9_204 rfl (vs := []) (st := []) rfl rfl (Nat.le_of_ble_eq_true rfl) dX9_one_48 w17 h (fun v σ15 h => ?_)
      obtain ⟨r16, rfl, h⟩ := h
      show EV Γ MX9_one d 51 [some (.ref v0), some (.int v1), some (.int v2)] [.int r16] σ15 Q
      exact EV.iret rfl dX9_one_51 h
    · have h := h.2 c9
      refine EV.aload_n 29 rfl 0 rfl rfl dX9_one_28 ?_
      refine EV.iconst 30 rfl dX9_one_29 (v := 3) (by decide) ?_
      refine EV.cV rfl rfl lk_X9_139 rfl (vs := [.int 3]) (st := []) rfl rfl (Nat.le_of_ble_eq_true rfl) dX9_one_30 w7 h (fun v σ18 h => ?_)
      obtain ⟨r19, rfl, h⟩ := h
      show EV Γ MX9_one d 33 [some (.ref v0), some (.int v1), some (.int v2)] [.int r19] σ18 Q
      exact EV.iret rfl dX9_one_33 h
  · have h := h.2 c8
    refine EV.iconst 17 rfl dX9_one_16 (v := 0) (by decide) ?_
    exact EV.iret rfl dX9_one_17 h
theorem eX9_one {Γ : Gm} {d : Nat} {σ : AH} {Q : Oc → AH → Prop} {v0 : Nat} {v1 : Int32} {v2 : Int32} (h : hs σ v0 = some (7, 27) ∧ CI Γ d MX9_look_ [.ref v0, .int v2] σ (fun r2 σ1 => hs σ1 v0 = some (7, 27) ∧ ∀ σ5 : AH, σ5 = setI σ1 v0 0 r2 → (((gi σ5 v0 0) = 0 → (((gi σ5 v0 6) ≠ 200 → CV Γ d MX9_load [.ref v0, .int v2, .int 0] σ5 (fun σ10 => hs σ10 v0 = some (7, 27) ∧ CV Γ d MX9_operate [.ref v0, .int v1, .int 0, .int 0] σ10 (fun σ12 => hs σ12 v0 = some (7, 27) ∧ CI Γ d MX9_made [.ref v0] σ12 (fun r16 σ15 => Q (.inl (some (.int r16))) σ15) (fun E σ15 => Q (.inr E) σ15)) (fun E σ12 => Q (.inr E) σ12)) (fun E σ10 => Q (.inr E) σ10)) ∧ ((gi σ5 v0 6) = 200 → CI Γ d MX9_fail [.ref v0, .int 3] σ5 (fun r19 σ18 => Q (.inl (some (.int r19))) σ18) (fun E σ18 => Q (.inr E) σ18)))) ∧ (¬ (gi σ5 v0 0) = 0 → Q (.inl (some (.int 0))) σ5))) (fun E σ1 => Q (.inr E) σ1)) : RUN Γ d MX9_one [.ref v0, .int v1, .int v2] σ Q :=
  EV.enter [some (.ref v0), some (.int v1), some (.int v2)] rfl (by decide +kernel) (Nat.le_of_ble_eq_true rfl) rfl (gX9_one_0 h)
theorem gX9_union_0 {Γ : Gm} {d : Nat} {σ : AH} {Q : Oc → AH → Prop} {v0 : Nat} {v1 : Int32} {v2 : Int32} (h : hs σ v0 = some (7, 27) ∧ CI Γ d MX9_two [.ref v0, .int 1, .int v1, .int v2] σ (fun r2 σ1 => Q (.inl (some (.int r2))) σ1) (fun E σ1 => Q (.inr E) σ1)) : EV Γ MX9_union d 0 [some (.ref v0), some (.int v1), some (.int v2)] [] σ Q := by
  refine EV.aload_n 1 rfl 0 rfl rfl dX9_union_0 ?_
  refine EV.iconst 2 rfl dX9_union_1 (v := 1) (by decide) ?_
  refine EV.iload_n 3 rfl 1 rfl rfl dX9_union_2 ?_
  refine EV.iload_n 4 rfl 2 rfl rfl dX9_union_3 ?_
  obtain ⟨w3, h⟩ := h
  refine EV.cV rfl rfl lk_X9_248 rfl (vs := [.int 1, .int v1, .int v2]) (st := []) rfl rfl (Nat.le_of_ble_eq_true rfl) dX9_union_4 w3 h (fun v σ1 h => ?_)
  obtain ⟨r2, rfl, h⟩ := h
  show EV Γ MX9_union d 7 [some (.ref v0), some (.int v1), some (.int v2)] [.int r2] σ1 Q
  exact EV.iret rfl dX9_union_7 h
theorem eX9_union {Γ : Gm} {d : Nat} {σ : AH} {Q : Oc → AH → Prop} {v0 : Nat} {v1 : Int32} {v2 : Int32} (h : hs σ v0 = some (7, 27) ∧ CI Γ d MX9_two [.ref v0, .int 1, .int v1, .int v2] σ (fun r2 σ1 => Q (.inl (some (.int r2))) σ1) (fun E σ1 => Q (.inr E) σ1)) : RUN Γ d MX9_union [.ref v0, .int v1, .int v2] σ Q :=
  EV.enter [some (.ref v0), some (.int v1), some (.int v2)] rfl (by decide +kernel) (Nat.le_of_ble_eq_true rfl) rfl (gX9_union_0 h)
theorem gX9_intersection_0 {Γ : Gm} {d : Nat} {σ : AH} {Q : Oc → AH → Prop} {v0 : Nat} {v1 : Int32} {v2 : Int32} (h : hs σ v0 = some (7, 27) ∧ CI Γ d MX9_two [.ref v0, .int 3, .int v1, .int v2] σ (fun r2 σ1 => Q (.inl (some (.int r2))) σ1) (fun E σ1 => Q (.inr E) σ1)) : EV Γ MX9_intersection d 0 [some (.ref v0), some (.int v1), some (.int v2)] [] σ Q := by
  refine EV.aload_n 1 rfl 0 rfl rfl dX9_intersection_0 ?_
  refine EV.iconst 2 rfl dX9_intersection_1 (v := 3) (by decide) ?_
  refine EV.iload_n 3 rfl 1 rfl rfl dX9_intersection_2 ?_
  refine EV.iload_n 4 rfl 2 rfl rfl dX9_intersection_3 ?_
  obtain ⟨w3, h⟩ := h
  refine EV.cV rfl rfl lk_X9_248 rfl (vs := [.int 3, .int v1, .int v2]) (st := []) rfl rfl (Nat.le_of_ble_eq_true rfl) dX9_intersection_4 w3 h (fun v σ1 h => ?_)
  obtain ⟨r2, rfl, h⟩ := h
  show EV Γ MX9_intersection d 7 [some (.ref v0), some (.int v1), some (.int v2)] [.int r2] σ1 Q
  exact EV.iret rfl dX9_intersection_7 h
theorem eX9_intersection {Γ : Gm} {d : Nat} {σ : AH} {Q : Oc → AH → Prop} {v0 : Nat} {v1 : Int32} {v2 : Int32} (h : hs σ v0 = some (7, 27) ∧ CI Γ d MX9_two [.ref v0, .int 3, .int v1, .int v2] σ (fun r2 σ1 => Q (.inl (some (.int r2))) σ1) (fun E σ1 => Q (.inr E) σ1)) : RUN Γ d MX9_intersection [.ref v0, .int v1, .int v2] σ Q :=
  EV.enter [some (.ref v0), some (.int v1), some (.int v2)] rfl (by decide +kernel) (Nat.le_of_ble_eq_true rfl) rfl (gX9_intersection_0 h)
theorem gX9_difference_0 {Γ : Gm} {d : Nat} {σ : AH} {Q : Oc → AH → Prop} {v0 : Nat} {v1 : Int32} {v2 : Int32} (h : hs σ v0 = some (7, 27) ∧ CI Γ d MX9_two [.ref v0, .int 2, .int v1, .int v2] σ (fun r2 σ1 => Q (.inl (some (.int r2))) σ1) (fun E σ1 => Q (.inr E) σ1)) : EV Γ MX9_difference d 0 [some (.ref v0), some (.int v1), some (.int v2)] [] σ Q := by
  refine EV.aload_n 1 rfl 0 rfl rfl dX9_difference_0 ?_
  refine EV.iconst 2 rfl dX9_difference_1 (v := 2) (by decide) ?_
  refine EV.iload_n 3 rfl 1 rfl rfl dX9_difference_2 ?_
  refine EV.iload_n 4 rfl 2 rfl rfl dX9_difference_3 ?_
  obtain ⟨w3, h⟩ := h
  refine EV.cV rfl rfl lk_X9_248 rfl (vs := [.int 2, .int v1, .int v2]) (st := []) rfl rfl (Nat.le_of_ble_eq_true rfl) dX9_difference_4 w3 h (fun v σ1 h => ?_)
  obtain ⟨r2, rfl, h⟩ := h
  show EV Γ MX9_difference d 7 [some (.ref v0), some (.int v1), some (.int v2)] [.int r2] σ1 Q
  exact EV.iret rfl dX9_difference_7 h
theorem eX9_difference {Γ : Gm} {d : Nat} {σ : AH} {Q : Oc → AH → Prop} {v0 : Nat} {v1 : Int32} {v2 : Int32} (h : hs σ v0 = some (7, 27) ∧ CI Γ d MX9_two [.ref v0, .int 2, .int v1, .int v2] σ (fun r2 σ1 => Q (.inl (some (.int r2))) σ1) (fun E σ1 => Q (.inr E) σ1)) : RUN Γ d MX9_difference [.ref v0, .int v1, .int v2] σ Q :=
  EV.enter [some (.ref v0), some (.int v1), some (.int v2)] rfl (by decide +kernel) (Nat.le_of_ble_eq_true rfl) rfl (gX9_difference_0 h)
theorem gX9_join_0 {Γ : Gm} {d : Nat} {σ : AH} {Q : Oc → AH → Prop} {v0 : Nat} {v1 : Int32} {v2 : Int32} (h : hs σ v0 = some (7, 27) ∧ CI Γ d MX9_two [.ref v0, .int 4, .int v1, .int v2] σ (fun r2 σ1 => Q (.inl (some (.int r2))) σ1) (fun E σ1 => Q (.inr E) σ1)) : EV Γ MX9_join d 0 [some (.ref v0), some (.int v1), some (.int v2)] [] σ Q := by
  refine EV.aload_n 1 rfl 0 rfl rfl dX9_join_0 ?_
  refine EV.iconst 2 rfl dX9_join_1 (v := 4) (by decide) ?_
  refine EV.iload_n 3 rfl 1 rfl rfl dX9_join_2 ?_
  refine EV.iload_n 4 rfl 2 rfl rfl dX9_join_3 ?_
  obtain ⟨w3, h⟩ := h
  refine EV.cV rfl rfl lk_X9_248 rfl (vs := [.int 4, .int v1, .int v2]) (st := []) rfl rfl (Nat.le_of_ble_eq_true rfl) dX9_join_4 w3 h (fun v σ1 h => ?_)
  obtain ⟨r2, rfl, h⟩ := h
  show EV Γ MX9_join d 7 [some (.ref v0), some (.int v1), some (.int v2)] [.int r2] σ1 Q
  exact EV.iret rfl dX9_join_7 h
theorem eX9_join {Γ : Gm} {d : Nat} {σ : AH} {Q : Oc → AH → Prop} {v0 : Nat} {v1 : Int32} {v2 : Int32} (h : hs σ v0 = some (7, 27) ∧ CI Γ d MX9_two [.ref v0, .int 4, .int v1, .int v2] σ (fun r2 σ1 => Q (.inl (some (.int r2))) σ1) (fun E σ1 => Q (.inr E) σ1)) : RUN Γ d MX9_join [.ref v0, .int v1, .int v2] σ Q :=
  EV.enter [some (.ref v0), some (.int v1), some (.int v2)] rfl (by decide +kernel) (Nat.le_of_ble_eq_true rfl) rfl (gX9_join_0 h)
theorem gX9_meet_0 {Γ : Gm} {d : Nat} {σ : AH} {Q : Oc → AH → Prop} {v0 : Nat} {v1 : Int32} {v2 : Int32} (h : hs σ v0 = some (7, 27) ∧ CI Γ d MX9_two [.ref v0, .int 7, .int v1, .int v2] σ (fun r2 σ1 => Q (.inl (some (.int r2))) σ1) (fun E σ1 => Q (.inr E) σ1)) : EV Γ MX9_meet d 0 [some (.ref v0), some (.int v1), some (.int v2)] [] σ Q := by
  refine EV.aload_n 1 rfl 0 rfl rfl dX9_meet_0 ?_
  refine EV.bipush 3 rfl dX9_meet_1 (v := 7) (by decide) ?_
  refine EV.iload_n 4 rfl 1 rfl rfl dX9_meet_3 ?_
  refine EV.iload_n 5 rfl 2 rfl rfl dX9_meet_4 ?_
  obtain ⟨w3, h⟩ := h
  refine EV.cV rfl rfl lk_X9_248 rfl (vs := [.int 7, .int v1, .int v2]) (st := []) rfl rfl (Nat.le_of_ble_eq_true rfl) dX9_meet_5 w3 h (fun v σ1 h => ?_)
  obtain ⟨r2, rfl, h⟩ := h
  show EV Γ MX9_meet d 8 [some (.ref v0), some (.int v1), some (.int v2)] [.int r2] σ1 Q
  exact EV.iret rfl dX9_meet_8 h
theorem eX9_meet {Γ : Gm} {d : Nat} {σ : AH} {Q : Oc → AH → Prop} {v0 : Nat} {v1 : Int32} {v2 : Int32} (h : hs σ v0 = some (7, 27) ∧ CI Γ d MX9_two [.ref v0, .int 7, .int v1, .int v2] σ (fun r2 σ1 => Q (.inl (some (.int r2))) σ1) (fun E σ1 => Q (.inr E) σ1)) : RUN Γ d MX9_meet [.ref v0, .int v1, .int v2] σ Q :=
  EV.enter [some (.ref v0), some (.int v1), some (.int v2)] rfl (by decide +kernel) (Nat.le_of_ble_eq_true rfl) rfl (gX9_meet_0 h)
theorem gX9_quotient_0 {Γ : Gm} {d : Nat} {σ : AH} {Q : Oc → AH → Prop} {v0 : Nat} {v1 : Int32} {v2 : Int32} (h : hs σ v0 = some (7, 27) ∧ CI Γ d MX9_two [.ref v0, .int 5, .int v1, .int v2] σ (fun r2 σ1 => Q (.inl (some (.int r2))) σ1) (fun E σ1 => Q (.inr E) σ1)) : EV Γ MX9_quotient d 0 [some (.ref v0), some (.int v1), some (.int v2)] [] σ Q := by
  refine EV.aload_n 1 rfl 0 rfl rfl dX9_quotient_0 ?_
  refine EV.iconst 2 rfl dX9_quotient_1 (v := 5) (by decide) ?_
  refine EV.iload_n 3 rfl 1 rfl rfl dX9_quotient_2 ?_
  refine EV.iload_n 4 rfl 2 rfl rfl dX9_quotient_3 ?_
  obtain ⟨w3, h⟩ := h
  refine EV.cV rfl rfl lk_X9_248 rfl (vs := [.int 5, .int v1, .int v2]) (st := []) rfl rfl (Nat.le_of_ble_eq_true rfl) dX9_quotient_4 w3 h (fun v σ1 h => ?_)
  obtain ⟨r2, rfl, h⟩ := h
  show EV Γ MX9_quotient d 7 [some (.ref v0), some (.int v1), some (.int v2)] [.int r2] σ1 Q
  exact EV.iret rfl dX9_quotient_7 h
theorem eX9_quotient {Γ : Gm} {d : Nat} {σ : AH} {Q : Oc → AH → Prop} {v0 : Nat} {v1 : Int32} {v2 : Int32} (h : hs σ v0 = some (7, 27) ∧ CI Γ d MX9_two [.ref v0, .int 5, .int v1, .int v2] σ (fun r2 σ1 => Q (.inl (some (.int r2))) σ1) (fun E σ1 => Q (.inr E) σ1)) : RUN Γ d MX9_quotient [.ref v0, .int v1, .int v2] σ Q :=
  EV.enter [some (.ref v0), some (.int v1), some (.int v2)] rfl (by decide +kernel) (Nat.le_of_ble_eq_true rfl) rfl (gX9_quotient_0 h)
theorem gX9_remainder_0 {Γ : Gm} {d : Nat} {σ : AH} {Q : Oc → AH → Prop} {v0 : Nat} {v1 : Int32} {v2 : Int32} (h : hs σ v0 = some (7, 27) ∧ CI Γ d MX9_two [.ref v0, .int 6, .int v1, .int v2] σ (fun r2 σ1 => Q (.inl (some (.int r2))) σ1) (fun E σ1 => Q (.inr E) σ1)) : EV Γ MX9_remainder d 0 [some (.ref v0), some (.int v1), some (.int v2)] [] σ Q := by
  refine EV.aload_n 1 rfl 0 rfl rfl dX9_remainder_0 ?_
  refine EV.bipush 3 rfl dX9_remainder_1 (v := 6) (by decide) ?_
  refine EV.iload_n 4 rfl 1 rfl rfl dX9_remainder_3 ?_
  refine EV.iload_n 5 rfl 2 rfl rfl dX9_remainder_4 ?_
  obtain ⟨w3, h⟩ := h
  refine EV.cV rfl rfl lk_X9_248 rfl (vs := [.int 6, .int v1, .int v2]) (st := []) rfl rfl (Nat.le_of_ble_eq_true rfl) dX9_remainder_5 w3 h (fun v σ1 h => ?_)
  obtain ⟨r2, rfl, h⟩ := h
  show EV Γ MX9_remainder d 8 [some (.ref v0), some (.int v1), some (.int v2)] [.int r2] σ1 Q
  exact EV.iret rfl dX9_remainder_8 h
theorem eX9_remainder {Γ : Gm} {d : Nat} {σ : AH} {Q : Oc → AH → Prop} {v0 : Nat} {v1 : Int32} {v2 : Int32} (h : hs σ v0 = some (7, 27) ∧ CI Γ d MX9_two [.ref v0, .int 6, .int v1, .int v2] σ (fun r2 σ1 => Q (.inl (some (.int r2))) σ1) (fun E σ1 => Q (.inr E) σ1)) : RUN Γ d MX9_remainder [.ref v0, .int v1, .int v2] σ Q :=
  EV.enter [some (.ref v0), some (.int v1), some (.int v2)] rfl (by decide +kernel) (Nat.le_of_ble_eq_true rfl) rfl (gX9_remainder_0 h)
theorem gX9_supersets_0 {Γ : Gm} {d : Nat} {σ : AH} {Q : Oc → AH → Prop} {v0 : Nat} {v1 : Int32} {v2 : Int32} (h : hs σ v0 = some (7, 27) ∧ CI Γ d MX9_two [.ref v0, .int 8, .int v1, .int v2] σ (fun r2 σ1 => Q (.inl (some (.int r2))) σ1) (fun E σ1 => Q (.inr E) σ1)) : EV Γ MX9_supersets d 0 [some (.ref v0), some (.int v1), some (.int v2)] [] σ Q := by
  refine EV.aload_n 1 rfl 0 rfl rfl dX9_supersets_0 ?_
  refine EV.bipush 3 rfl dX9_supersets_1 (v := 8) (by decide) ?_
  refine EV.iload_n 4 rfl 1 rfl rfl dX9_supersets_3 ?_
  refine EV.iload_n 5 rfl 2 rfl rfl dX9_supersets_4 ?_
  obtain ⟨w3, h⟩ := h
  refine EV.cV rfl rfl lk_X9_248 rfl (vs := [.int 8, .int v1, .int v2]) (st := []) rfl rfl (Nat.le_of_ble_eq_true rfl) dX9_supersets_5 w3 h (fun v σ1 h => ?_)
  obtain ⟨r2, rfl, h⟩ := h
  show EV Γ MX9_supersets d 8 [some (.ref v0), some (.int v1), some (.int v2)] [.int r2] σ1 Q
  exact EV.iret rfl dX9_supersets_8 h
theorem eX9_supersets {Γ : Gm} {d : Nat} {σ : AH} {Q : Oc → AH → Prop} {v0 : Nat} {v1 : Int32} {v2 : Int32} (h : hs σ v0 = some (7, 27) ∧ CI Γ d MX9_two [.ref v0, .int 8, .int v1, .int v2] σ (fun r2 σ1 => Q (.inl (some (.int r2))) σ1) (fun E σ1 => Q (.inr E) σ1)) : RUN Γ d MX9_supersets [.ref v0, .int v1, .int v2] σ Q :=
  EV.enter [some (.ref v0), some (.int v1), some (.int v2)] rfl (by decide +kernel) (Nat.le_of_ble_eq_true rfl) rfl (gX9_supersets_0 h)
theorem gX9_subsets_0 {Γ : Gm} {d : Nat} {σ : AH} {Q : Oc → AH → Prop} {v0 : Nat} {v1 : Int32} {v2 : Int32} (h : hs σ v0 = some (7, 27) ∧ CI Γ d MX9_two [.ref v0, .int 9, .int v1, .int v2] σ (fun r2 σ1 => Q (.inl (some (.int r2))) σ1) (fun E σ1 => Q (.inr E) σ1)) : EV Γ MX9_subsets d 0 [some (.ref v0), some (.int v1), some (.int v2)] [] σ Q := by
  refine EV.aload_n 1 rfl 0 rfl rfl dX9_subsets_0 ?_
  refine EV.bipush 3 rfl dX9_subsets_1 (v := 9) (by decide) ?_
  refine EV.iload_n 4 rfl 1 rfl rfl dX9_subsets_3 ?_
  refine EV.iload_n 5 rfl 2 rfl rfl dX9_subsets_4 ?_
  obtain ⟨w3, h⟩ := h
  refine EV.cV rfl rfl lk_X9_248 rfl (vs := [.int 9, .int v1, .int v2]) (st := []) rfl rfl (Nat.le_of_ble_eq_true rfl) dX9_subsets_5 w3 h (fun v σ1 h => ?_)
  obtain ⟨r2, rfl, h⟩ := h
  show EV Γ MX9_subsets d 8 [some (.ref v0), some (.int v1), some (.int v2)] [.int r2] σ1 Q
  exact EV.iret rfl dX9_subsets_8 h
theorem eX9_subsets {Γ : Gm} {d : Nat} {σ : AH} {Q : Oc → AH → Prop} {v0 : Nat} {v1 : Int32} {v2 : Int32} (h : hs σ v0 = some (7, 27) ∧ CI Γ d MX9_two [.ref v0, .int 9, .int v1, .int v2] σ (fun r2 σ1 => Q (.inl (some (.int r2))) σ1) (fun E σ1 => Q (.inr E) σ1)) : RUN Γ d MX9_subsets [.ref v0, .int v1, .int v2] σ Q :=
  EV.enter [some (.ref v0), some (.int v1), some (.int v2)] rfl (by decide +kernel) (Nat.le_of_ble_eq_true rfl) rfl (gX9_subsets_0 h)
theorem gX9_maximal_0 {Γ : Gm} {d : Nat} {σ : AH} {Q : Oc → AH → Prop} {v0 : Nat} {v1 : Int32} (h : hs σ v0 = some (7, 27) ∧ CI Γ d MX9_one [.ref v0, .int 10, .int v1] σ (fun r2 σ1 => Q (.inl (some (.int r2))) σ1) (fun E σ1 => Q (.inr E) σ1)) : EV Γ MX9_maximal d 0 [some (.ref v0), some (.int v1)] [] σ Q := by
  refine EV.aload_n 1 rfl 0 rfl rfl dX9_maximal_0 ?_
  refine EV.bipush 3 rfl dX9_maximal_1 (v := 10) (by decide) ?_
  refine EV.iload_n 4 rfl 1 rfl rfl dX9_maximal_3 ?_
  obtain ⟨w3, h⟩ := h
  refine EV.cV rfl rfl lk_X9_251 rfl (vs := [.int 10, .int v1]) (st := []) rfl rfl (Nat.le_of_ble_eq_true rfl) dX9_maximal_4 w3 h (fun v σ1 h => ?_)
  obtain ⟨r2, rfl, h⟩ := h
  show EV Γ MX9_maximal d 7 [some (.ref v0), some (.int v1)] [.int r2] σ1 Q
  exact EV.iret rfl dX9_maximal_7 h
theorem eX9_maximal {Γ : Gm} {d : Nat} {σ : AH} {Q : Oc → AH → Prop} {v0 : Nat} {v1 : Int32} (h : hs σ v0 = some (7, 27) ∧ CI Γ d MX9_one [.ref v0, .int 10, .int v1] σ (fun r2 σ1 => Q (.inl (some (.int r2))) σ1) (fun E σ1 => Q (.inr E) σ1)) : RUN Γ d MX9_maximal [.ref v0, .int v1] σ Q :=
  EV.enter [some (.ref v0), some (.int v1)] rfl (by decide +kernel) (Nat.le_of_ble_eq_true rfl) rfl (gX9_maximal_0 h)
theorem gX9_minimal_0 {Γ : Gm} {d : Nat} {σ : AH} {Q : Oc → AH → Prop} {v0 : Nat} {v1 : Int32} (h : hs σ v0 = some (7, 27) ∧ CI Γ d MX9_one [.ref v0, .int 11, .int v1] σ (fun r2 σ1 => Q (.inl (some (.int r2))) σ1) (fun E σ1 => Q (.inr E) σ1)) : EV Γ MX9_minimal d 0 [some (.ref v0), some (.int v1)] [] σ Q := by
  refine EV.aload_n 1 rfl 0 rfl rfl dX9_minimal_0 ?_
  refine EV.bipush 3 rfl dX9_minimal_1 (v := 11) (by decide) ?_
  refine EV.iload_n 4 rfl 1 rfl rfl dX9_minimal_3 ?_
  obtain ⟨w3, h⟩ := h
  refine EV.cV rfl rfl lk_X9_251 rfl (vs := [.int 11, .int v1]) (st := []) rfl rfl (Nat.le_of_ble_eq_true rfl) dX9_minimal_4 w3 h (fun v σ1 h => ?_)
  obtain ⟨r2, rfl, h⟩ := h
  show EV Γ MX9_minimal d 7 [some (.ref v0), some (.int v1)] [.int r2] σ1 Q
  exact EV.iret rfl dX9_minimal_7 h
theorem eX9_minimal {Γ : Gm} {d : Nat} {σ : AH} {Q : Oc → AH → Prop} {v0 : Nat} {v1 : Int32} (h : hs σ v0 = some (7, 27) ∧ CI Γ d MX9_one [.ref v0, .int 11, .int v1] σ (fun r2 σ1 => Q (.inl (some (.int r2))) σ1) (fun E σ1 => Q (.inr E) σ1)) : RUN Γ d MX9_minimal [.ref v0, .int v1] σ Q :=
  EV.enter [some (.ref v0), some (.int v1)] rfl (by decide +kernel) (Nat.le_of_ble_eq_true rfl) rfl (gX9_minimal_0 h)
theorem gX9_hitting_0 {Γ : Gm} {d : Nat} {σ : AH} {Q : Oc → AH → Prop} {v0 : Nat} {v1 : Int32} (h : hs σ v0 = some (7, 27) ∧ CI Γ d MX9_one [.ref v0, .int 12, .int v1] σ (fun r2 σ1 => Q (.inl (some (.int r2))) σ1) (fun E σ1 => Q (.inr E) σ1)) : EV Γ MX9_hitting d 0 [some (.ref v0), some (.int v1)] [] σ Q := by
  refine EV.aload_n 1 rfl 0 rfl rfl dX9_hitting_0 ?_
  refine EV.bipush 3 rfl dX9_hitting_1 (v := 12) (by decide) ?_
  refine EV.iload_n 4 rfl 1 rfl rfl dX9_hitting_3 ?_
  obtain ⟨w3, h⟩ := h
  refine EV.cV rfl rfl lk_X9_251 rfl (vs := [.int 12, .int v1]) (st := []) rfl rfl (Nat.le_of_ble_eq_true rfl) dX9_hitting_4 w3 h (fun v σ1 h => ?_)
  obtain ⟨r2, rfl, h⟩ := h
  show EV Γ MX9_hitting d 7 [some (.ref v0), some (.int v1)] [.int r2] σ1 Q
  exact EV.iret rfl dX9_hitting_7 h
theorem eX9_hitting {Γ : Gm} {d : Nat} {σ : AH} {Q : Oc → AH → Prop} {v0 : Nat} {v1 : Int32} (h : hs σ v0 = some (7, 27) ∧ CI Γ d MX9_one [.ref v0, .int 12, .int v1] σ (fun r2 σ1 => Q (.inl (some (.int r2))) σ1) (fun E σ1 => Q (.inr E) σ1)) : RUN Γ d MX9_hitting [.ref v0, .int v1] σ Q :=
  EV.enter [some (.ref v0), some (.int v1)] rfl (by decide +kernel) (Nat.le_of_ble_eq_true rfl) rfl (gX9_hitting_0 h)
theorem gX9_closure_0 {Γ : Gm} {d : Nat} {σ : AH} {Q : Oc → AH → Prop} {v0 : Nat} {v1 : Int32} (h : hs σ v0 = some (7, 27) ∧ CI Γ d MX9_one [.ref v0, .int 13, .int v1] σ (fun r2 σ1 => Q (.inl (some (.int r2))) σ1) (fun E σ1 => Q (.inr E) σ1)) : EV Γ MX9_closure d 0 [some (.ref v0), some (.int v1)] [] σ Q := by
  refine EV.aload_n 1 rfl 0 rfl rfl dX9_closure_0 ?_
  refine EV.bipush 3 rfl dX9_closure_1 (v := 13) (by decide) ?_
  refine EV.iload_n 4 rfl 1 rfl rfl dX9_closure_3 ?_
  obtain ⟨w3, h⟩ := h
  refine EV.cV rfl rfl lk_X9_251 rfl (vs := [.int 13, .int v1]) (st := []) rfl rfl (Nat.le_of_ble_eq_true rfl) dX9_closure_4 w3 h (fun v σ1 h => ?_)
  obtain ⟨r2, rfl, h⟩ := h
  show EV Γ MX9_closure d 7 [some (.ref v0), some (.int v1)] [.int r2] σ1 Q
  exact EV.iret rfl dX9_closure_7 h
theorem eX9_closure {Γ : Gm} {d : Nat} {σ : AH} {Q : Oc → AH → Prop} {v0 : Nat} {v1 : Int32} (h : hs σ v0 = some (7, 27) ∧ CI Γ d MX9_one [.ref v0, .int 13, .int v1] σ (fun r2 σ1 => Q (.inl (some (.int r2))) σ1) (fun E σ1 => Q (.inr E) σ1)) : RUN Γ d MX9_closure [.ref v0, .int v1] σ Q :=
  EV.enter [some (.ref v0), some (.int v1)] rfl (by decide +kernel) (Nat.le_of_ble_eq_true rfl) rfl (gX9_closure_0 h)
theorem gX9_change_0 {Γ : Gm} {d : Nat} {σ : AH} {Q : Oc → AH → Prop} {v0 : Nat} {v1 : Int32} {v2 : Int32} (h : hs σ v0 = some (7, 27) ∧ CI Γ d MX9_look_ [.ref v0, .int v1] σ (fun r2 σ1 => ((r2 = 1 → EV Γ MX9_change d 26 [some (.ref v0), some (.int v1), some (.int v2), none] [.int 1, .ref v0] σ1 Q) ∧ (¬ r2 = 1 → CI Γ d MX9_isElement [.int v2] σ1 (fun r6 σ5 => ((r6 ≠ 0 → hs σ5 v0 = some (7, 27) ∧ CI Γ d MX9_look_ [.ref v0, .int v1] σ5 (fun r9 σ8 => EV Γ MX9_change d 26 [some (.ref v0), some (.int v1), some (.int v2), none] [.int r9, .ref v0] σ8 Q) (fun E σ8 => Q (.inr E) σ8)) ∧ (r6 = 0 → EV Γ MX9_change d 26 [some (.ref v0), some (.int v1), some (.int v2), none] [.int 1, .ref v0] σ5 Q))) (fun _ _ => False)))) (fun E σ1 => Q (.inr E) σ1)) : EV Γ MX9_change d 0 [some (.ref v0), some (.int v1), some (.int v2), none] [] σ Q := by
  refine EV.aload_n 1 rfl 0 rfl rfl dX9_change_0 ?_
  refine EV.aload_n 2 rfl 0 rfl rfl dX9_change_1 ?_
  refine EV.iload_n 3 rfl 1 rfl rfl dX9_change_2 ?_
  obtain ⟨w3, h⟩ := h
  refine EV.cV rfl rfl lk_X9_220 rfl (vs := [.int v1]) (st := [.ref v0]) rfl rfl (Nat.le_of_ble_eq_true rfl) dX9_change_3 w3 h (fun v σ1 h => ?_)
  obtain ⟨r2, rfl, h⟩ := h
  show EV Γ MX9_change d 6 [some (.ref v0), some (.int v1), some (.int v2), none] [.int r2, .ref v0] σ1 Q
  refine EV.iconst 7 rfl dX9_change_6 (v := 1) (by decide) ?_
  refine EV.icmp_eq 10 17 rfl (by decide) dX9_change_7 (fun c4 => ?_) (fun c4 => ?_)
  · have h := h.1 c4
    refine EV.iconst 18 rfl dX9_change_17 (v := 1) (by decide) ?_
    refine EV.goto 26 (by decide) dX9_change_18 ?_
    exact h
  · have h := h.2 c4
    refine EV.iload_n 11 rfl 2 rfl rfl dX9_change_10 ?_
    refine EV.cS rfl lk_X9_254 rfl (vs := [.int v2]) (st := [.ref v0]) rfl rfl (Nat.le_of_ble_eq_true rfl) dX9_change_11 h (fun v σ5 h => ?_)
    obtain ⟨r6, rfl, h⟩ := h
    show EV Γ MX9_change d 14 [some (.ref v0), some (.int v1), some (.int v2), none] [.int r6, .ref v0] σ5 Q
    refine EV.if_ne 17 21 rfl (by decide) dX9_change_14 (fun c7 => ?_) (fun c7 => ?_)
    · have h := h.1 c7
      refine EV.aload_n 22 rfl 0 rfl rfl dX9_change_21 ?_
      refine EV.iload_n 23 rfl 1 rfl rfl dX9_change_22 ?_
      obtain ⟨w10, h⟩ := h
      refine EV.cV rfl rfl lk_X9_220 rfl (vs := [.int v1]) (st := [.ref v0]) rfl rfl (Nat.le_of_ble_eq_true rfl) dX9_change_23 w10 h (fun v σ8 h => ?_)
      obtain ⟨r9, rfl, h⟩ := h
      show EV Γ MX9_change d 26 [some (.ref v0), some (.int v1), some (.int v2), none] [.int r9, .ref v0] σ8 Q
      exact h
    · have h := h.2 c7
      refine EV.iconst 18 rfl dX9_change_17 (v := 1) (by decide) ?_
      refine EV.goto 26 (by decide) dX9_change_18 ?_
      exact h
theorem eX9_change {Γ : Gm} {d : Nat} {σ : AH} {Q : Oc → AH → Prop} {v0 : Nat} {v1 : Int32} {v2 : Int32} (h : hs σ v0 = some (7, 27) ∧ CI Γ d MX9_look_ [.ref v0, .int v1] σ (fun r2 σ1 => ((r2 = 1 → EV Γ MX9_change d 26 [some (.ref v0), some (.int v1), some (.int v2), none] [.int 1, .ref v0] σ1 Q) ∧ (¬ r2 = 1 → CI Γ d MX9_isElement [.int v2] σ1 (fun r6 σ5 => ((r6 ≠ 0 → hs σ5 v0 = some (7, 27) ∧ CI Γ d MX9_look_ [.ref v0, .int v1] σ5 (fun r9 σ8 => EV Γ MX9_change d 26 [some (.ref v0), some (.int v1), some (.int v2), none] [.int r9, .ref v0] σ8 Q) (fun E σ8 => Q (.inr E) σ8)) ∧ (r6 = 0 → EV Γ MX9_change d 26 [some (.ref v0), some (.int v1), some (.int v2), none] [.int 1, .ref v0] σ5 Q))) (fun _ _ => False)))) (fun E σ1 => Q (.inr E) σ1)) : RUN Γ d MX9_change [.ref v0, .int v1, .int v2] σ Q :=
  EV.enter [some (.ref v0), some (.int v1), some (.int v2), none] rfl (by decide +kernel) (Nat.le_of_ble_eq_true rfl) rfl (gX9_change_0 h)
theorem gX9_change_26 {Γ : Gm} {d : Nat} {σ : AH} {Q : Oc → AH → Prop} {v0 : Nat} {v1 : Int32} {v2 : Int32} {s0 : Int32} {s1 : Nat} (h : hs σ s1 = some (7, 27) ∧ ∀ σ2 : AH, σ2 = setI σ s1 0 s0 → hs σ2 v0 = some (7, 27) ∧ (((gi σ2 v0 0) = 0 → (((gi σ2 v0 6) ≠ 200 → ∃ t8 : Nat, gr σ2 v0 15 = some t8 ∧ CV Γ d MX9_clear [.ref t8, .int 0] σ2 (fun σ10 => EV Γ MX9_change d 64 [some (.ref v0), some (.int v1), some (.int v2), some (.int 0)] [] σ10 Q) (fun _ _ => False)) ∧ ((gi σ2 v0 6) = 200 → CI Γ d MX9_fail [.ref v0, .int 3] σ2 (fun r13 σ12 => Q (.inl (some (.int r13))) σ12) (fun E σ12 => Q (.inr E) σ12)))) ∧ (¬ (gi σ2 v0 0) = 0 → Q (.inl (some (.int 0))) σ2))) : EV Γ MX9_change d 26 [some (.ref v0), some (.int v1), some (.int v2), none] [.int s0, .ref s1] σ Q := by
  obtain ⟨w1, h⟩ := h
  refine EV.putI 29 rfl fw_X9_62 rfl (by decide) dX9_change_26 w1 (EV.nm (fun σ2 e3 => ?_))
  have h := h σ2 e3
  have w4 := tr_hs (hs_setI_of e3) w1
  refine EV.aload_n 30 rfl 0 rfl rfl dX9_change_29 ?_
  obtain ⟨w5, h⟩ := h
  refine EV.getI 33 rfl fl_X9_62 rfl dX9_change_30 w5 ?_
  refine EV.if_eq 36 38 rfl (by decide) dX9_change_33 (fun c6 => ?_) (fun c6 => ?_)
  · have h := h.1 c6
    refine EV.aload_n 39 rfl 0 rfl rfl dX9_change_38 ?_
    refine EV.getI 42 rfl fl_X9_133 rfl dX9_change_39 w5 ?_
    refine EV.sipush 45 rfl dX9_change_42 (v := 200) (by decide) ?_
    refine EV.icmp_ne 48 54 rfl (by decide) dX9_change_45 (fun c7 => ?_) (fun c7 => ?_)
    · have h := h.1 c7
      refine EV.aload_n 55 rfl 0 rfl rfl dX9_change_54 ?_
      obtain ⟨t8, g9, h⟩ := h
      refine EV.getR 58 rfl fl_X9_41 rfl dX9_change_55 w5 g9 ?_
      refine EV.iconst 59 rfl dX9_change_58 (v := 0) (by decide) ?_
      refine EV.cS rfl lk_X9_69 rfl (vs := [.ref t8, .int 0]) (st := []) rfl rfl (Nat.le_of_ble_eq_true rfl) dX9_change_59 h (fun v σ10 h => ?_)
      obtain ⟨rfl, h⟩ := h
      show EV Γ MX9_change d 62 [some (.ref v0), some (.int v1), some (.int v2), none] [] σ10 Q
      refine EV.iconst 63 rfl dX9_change_62 (v := 0) (by decide) ?_
      refine EV.istore_n 64 rfl 3 [some (.ref v0), some (.int v1), some (.int v2), some (.int 0)] rfl (by decide) rfl dX9_change_63 ?_
      exact h
    · have h := h.2 c7
      refine EV.aload_n 49 rfl 0 rfl rfl dX9_change_48 ?_
      refine EV.iconst 50 rfl dX9_change_49 (v := 3) (by decide) ?_
      refine EV.cV rfl rfl lk_X9_139 rfl (vs := [.int 3]) (st := []) rfl rfl (Nat.le_of_ble_eq_true rfl) dX9_change_50 w5 h (fun v σ12 h => ?_)
      obtain ⟨r13, rfl, h⟩ := h
      show EV Γ MX9_change d 53 [some (.ref v0), some (.int v1), some (.int v2), none] [.int r13] σ12 Q
      exact EV.iret rfl dX9_change_53 h
  · have h := h.2 c6
    refine EV.iconst 37 rfl dX9_change_36 (v := 0) (by decide) ?_
    exact EV.iret rfl dX9_change_37 h
theorem gX9_change_64 {Γ : Gm} {d : Nat} {σ : AH} {Q : Oc → AH → Prop} {v0 : Nat} {v1 : Int32} {v2 : Int32} {v3 : Int32} (h : ((4096 ≤ v3 → hs σ v0 = some (7, 27) ∧ CI Γ d MX9_made [.ref v0] σ (fun r3 σ2 => Q (.inl (some (.int r3))) σ2) (fun E σ2 => Q (.inr E) σ2)) ∧ (¬ 4096 ≤ v3 → hs σ v0 = some (7, 27) ∧ ∃ t6 : Nat, gr σ v0 9 = some t6 ∧ CI Γ d MX9_has [.ref t6, .int v1, .int v3] σ (fun r9 σ8 => ((r9 = 0 → EV Γ MX9_change d 64 [some (.ref v0), some (.int v1), some (.int v2), some (.int (v3 + 1))] [] σ8 Q) ∧ (¬ r9 = 0 → hs σ8 v0 = some (7, 27) ∧ ∃ t12 : Nat, gr σ8 v0 15 = some t12 ∧ CV Γ d MX9_put [.ref t12, .int 0, .int (v3 ^^^ ((1 : Int32) <<< (v2 &&& 31)))] σ8 (fun σ14 => EV Γ MX9_change d 64 [some (.ref v0), some (.int v1), some (.int v2), some (.int (v3 + 1))] [] σ14 Q) (fun _ _ => False)))) (fun _ _ => False)))) : EV Γ MX9_change d 64 [some (.ref v0), some (.int v1), some (.int v2), some (.int v3)] [] σ Q := by
  refine EV.iload_n 65 rfl 3 rfl rfl dX9_change_64 ?_
  refine EV.sipush 68 rfl dX9_change_65 (v := 4096) (by decide) ?_
  refine EV.icmp_ge 71 102 rfl (by decide) dX9_change_68 (fun c1 => ?_) (fun c1 => ?_)
  · have h := h.1 c1
    refine EV.aload_n 103 rfl 0 rfl rfl dX9_change_102 ?_
    obtain ⟨w4, h⟩ := h
    refine EV.cV rfl rfl lk_X9_204 rfl (vs := []) (st := []) rfl rfl (Nat.le_of_ble_eq_true rfl) dX9_change_103 w4 h (fun v σ2 h => ?_)
    obtain ⟨r3, rfl, h⟩ := h
    show EV Γ MX9_change d 106 [some (.ref v0), some (.int v1), some (.int v2), some (.int v3)] [.int r3] σ2 Q
    exact EV.iret rfl dX9_change_106 h
  · have h := h.2 c1
    refine EV.aload_n 72 rfl 0 rfl rfl dX9_change_71 ?_
    obtain ⟨w5, h⟩ := h
    obtain ⟨t6, g7, h⟩ := h
    refine EV.getR 75 rfl fl_X9_24 rfl dX9_change_72 w5 g7 ?_
    refine EV.iload_n 76 rfl 1 rfl rfl dX9_change_75 ?_
    refine EV.iload_n 77 rfl 3 rfl rfl dX9_change_76 ?_
    refine EV.cS rfl lk_X9_65 rfl (vs := [.ref t6, .int v1, .int v3]) (st := []) rfl rfl (Nat.le_of_ble_eq_true rfl) dX9_change_77 h (fun v σ8 h => ?_)
    obtain ⟨r9, rfl, h⟩ := h
    show EV Γ MX9_change d 80 [some (.ref v0), some (.int v1), some (.int v2), some (.int v3)] [.int r9] σ8 Q
    refine EV.if_eq 83 96 rfl (by decide) dX9_change_80 (fun c10 => ?_) (fun c10 => ?_)
    · have h := h.1 c10
      refine EV.iinc 99 rfl [some (.ref v0), some (.int v1), some (.int v2), some (.int (v3 + 1))] (v := 1) (by decide) (by decide) rfl rfl dX9_change_96 ?_
      refine EV.goto 64 (by decide) dX9_change_99 ?_
      exact h
    · have h := h.2 c10
      refine EV.aload_n 84 rfl 0 rfl rfl dX9_change_83 ?_
      obtain ⟨w11, h⟩ := h
      obtain ⟨t12, g13, h⟩ := h
      refine EV.getR 87 rfl fl_X9_41 rfl dX9_change_84 w11 g13 ?_
      refine EV.iconst 88 rfl dX9_change_87 (v := 0) (by decide) ?_
      refine EV.iload_n 89 rfl 3 rfl rfl dX9_change_88 ?_
      refine EV.iconst 90 rfl dX9_change_89 (v := 1) (by decide) ?_
      refine EV.iload_n 91 rfl 2 rfl rfl dX9_change_90 ?_
      refine EV.ishl 92 rfl dX9_change_91 ?_
      refine EV.ixor 93 rfl dX9_change_92 ?_
      refine EV.cS rfl lk_X9_98 rfl (vs := [.ref t12, .int 0, .int (v3 ^^^ ((1 : Int32) <<< (v2 &&& 31)))]) (st := []) rfl rfl (Nat.le_of_ble_eq_true rfl) dX9_change_93 h (fun v σ14 h => ?_)
      obtain ⟨rfl, h⟩ := h
      show EV Γ MX9_change d 96 [some (.ref v0), some (.int v1), some (.int v2), some (.int v3)] [] σ14 Q
      refine EV.iinc 99 rfl [some (.ref v0), some (.int v1), some (.int v2), some (.int (v3 + 1))] (v := 1) (by decide) (by decide) rfl rfl dX9_change_96 ?_
      refine EV.goto 64 (by decide) dX9_change_99 ?_
      exact h
theorem gX9_costOf_0 {Γ : Gm} {d : Nat} {σ : AH} {Q : Oc → AH → Prop} {v0 : Nat} {v1 : Int32} (h : EV Γ MX9_costOf d 4 [some (.ref v0), some (.int v1), some (.int 0), some (.int 0)] [] σ Q) : EV Γ MX9_costOf d 0 [some (.ref v0), some (.int v1), none, none] [] σ Q := by
  refine EV.iconst 1 rfl dX9_costOf_0 (v := 0) (by decide) ?_
  refine EV.istore_n 2 rfl 2 [some (.ref v0), some (.int v1), some (.int 0), none] rfl (by decide) rfl dX9_costOf_1 ?_
  refine EV.iconst 3 rfl dX9_costOf_2 (v := 0) (by decide) ?_
  refine EV.istore_n 4 rfl 3 [some (.ref v0), some (.int v1), some (.int 0), some (.int 0)] rfl (by decide) rfl dX9_costOf_3 ?_
  exact h
theorem eX9_costOf {Γ : Gm} {d : Nat} {σ : AH} {Q : Oc → AH → Prop} {v0 : Nat} {v1 : Int32} (h : EV Γ MX9_costOf d 4 [some (.ref v0), some (.int v1), some (.int 0), some (.int 0)] [] σ Q) : RUN Γ d MX9_costOf [.ref v0, .int v1] σ Q :=
  EV.enter [some (.ref v0), some (.int v1), none, none] rfl (by decide +kernel) (Nat.le_of_ble_eq_true rfl) rfl (gX9_costOf_0 h)
theorem gX9_costOf_4 {Γ : Gm} {d : Nat} {σ : AH} {Q : Oc → AH → Prop} {v0 : Nat} {v1 : Int32} {v2 : Int32} {v3 : Int32} (h : ((12 ≤ v3 → Q (.inl (some (.int v2))) σ) ∧ (¬ 12 ≤ v3 → hs σ v0 = some (7, 27) ∧ ∃ t3 : Nat, gr σ v0 10 = some t3 ∧ ∃ n6 : Nat, hs σ t3 = some (22, n6) ∧ ∃ j7 : Nat, IX v3 n6 j7 ∧ EV Γ MX9_costOf d 4 [some (.ref v0), some (.int v1), some (.int (v2 + (((v1 >>> (v3 &&& 31)) &&& 1) * (gi σ t3 j7)))), some (.int (v3 + 1))] [] σ Q))) : EV Γ MX9_costOf d 4 [some (.ref v0), some (.int v1), some (.int v2), some (.int v3)] [] σ Q := by
  refine EV.iload_n 5 rfl 3 rfl rfl dX9_costOf_4 ?_
  refine EV.bipush 7 rfl dX9_costOf_5 (v := 12) (by decide) ?_
  refine EV.icmp_ge 10 31 rfl (by decide) dX9_costOf_7 (fun c1 => ?_) (fun c1 => ?_)
  · have h := h.1 c1
    refine EV.iload_n 32 rfl 2 rfl rfl dX9_costOf_31 ?_
    exact EV.iret rfl dX9_costOf_32 h
  · have h := h.2 c1
    refine EV.iload_n 11 rfl 2 rfl rfl dX9_costOf_10 ?_
    refine EV.iload_n 12 rfl 1 rfl rfl dX9_costOf_11 ?_
    refine EV.iload_n 13 rfl 3 rfl rfl dX9_costOf_12 ?_
    refine EV.ishr 14 rfl dX9_costOf_13 ?_
    refine EV.iconst 15 rfl dX9_costOf_14 (v := 1) (by decide) ?_
    refine EV.iand 16 rfl dX9_costOf_15 ?_
    refine EV.aload_n 17 rfl 0 rfl rfl dX9_costOf_16 ?_
    obtain ⟨w2, h⟩ := h
    obtain ⟨t3, g4, h⟩ := h
    refine EV.getR 20 rfl fl_X9_28 rfl dX9_costOf_17 w2 g4 ?_
    refine EV.iload_n 21 rfl 3 rfl rfl dX9_costOf_20 ?_
    obtain ⟨n6, w5, h⟩ := h
    obtain ⟨j7, x8, h⟩ := h
    refine EV.iald 22 rfl dX9_costOf_21 w5 x8 ?_
    refine EV.imul 23 rfl dX9_costOf_22 ?_
    refine EV.iadd 24 rfl dX9_costOf_23 ?_
    refine EV.istore_n 25 rfl 2 [some (.ref v0), some (.int v1), some (.int (v2 + (((v1 >>> (v3 &&& 31)) &&& 1) * (gi σ t3 j7)))), some (.int v3)] rfl (by decide) rfl dX9_costOf_24 ?_
    refine EV.iinc 28 rfl [some (.ref v0), some (.int v1), some (.int (v2 + (((v1 >>> (v3 &&& 31)) &&& 1) * (gi σ t3 j7)))), some (.int (v3 + 1))] (v := 1) (by decide) (by decide) rfl rfl dX9_costOf_25 ?_
    refine EV.goto 4 (by decide) dX9_costOf_28 ?_
    exact h
theorem gX9_withCost_0 {Γ : Gm} {d : Nat} {σ : AH} {Q : Oc → AH → Prop} {v0 : Nat} {v1 : Int32} {v2 : Int32} {v3 : Int32} (h : hs σ v0 = some (7, 27) ∧ CI Γ d MX9_look_ [.ref v0, .int v1] σ (fun r2 σ1 => hs σ1 v0 = some (7, 27) ∧ ∀ σ5 : AH, σ5 = setI σ1 v0 0 r2 → (((gi σ5 v0 0) = 0 → (((gi σ5 v0 6) ≠ 200 → ∃ t10 : Nat, gr σ5 v0 15 = some t10 ∧ CV Γ d MX9_clear [.ref t10, .int 0] σ5 (fun σ12 => EV Γ MX9_withCost d 45 [some (.ref v0), some (.int v1), some (.int v2), some (.int v3), some (.int 0)] [] σ12 Q) (fun _ _ => False)) ∧ ((gi σ5 v0 6) = 200 → CI Γ d MX9_fail [.ref v0, .int 3] σ5 (fun r15 σ14 => Q (.inl (some (.int r15))) σ14) (fun E σ14 => Q (.inr E) σ14)))) ∧ (¬ (gi σ5 v0 0) = 0 → Q (.inl (some (.int 0))) σ5))) (fun E σ1 => Q (.inr E) σ1)) : EV Γ MX9_withCost d 0 [some (.ref v0), some (.int v1), some (.int v2), some (.int v3), none] [] σ Q := by
  refine EV.aload_n 1 rfl 0 rfl rfl dX9_withCost_0 ?_
  refine EV.aload_n 2 rfl 0 rfl rfl dX9_withCost_1 ?_
  refine EV.iload_n 3 rfl 1 rfl rfl dX9_withCost_2 ?_
  obtain ⟨w3, h⟩ := h
  refine EV.cV rfl rfl lk_X9_220 rfl (vs := [.int v1]) (st := [.ref v0]) rfl rfl (Nat.le_of_ble_eq_true rfl) dX9_withCost_3 w3 h (fun v σ1 h => ?_)
  obtain ⟨r2, rfl, h⟩ := h
  show EV Γ MX9_withCost d 6 [some (.ref v0), some (.int v1), some (.int v2), some (.int v3), none] [.int r2, .ref v0] σ1 Q
  obtain ⟨w4, h⟩ := h
  refine EV.putI 9 rfl fw_X9_62 rfl (by decide) dX9_withCost_6 w4 (EV.nm (fun σ5 e6 => ?_))
  have h := h σ5 e6
  have w7 := tr_hs (hs_setI_of e6) w4
  refine EV.aload_n 10 rfl 0 rfl rfl dX9_withCost_9 ?_
  refine EV.getI 13 rfl fl_X9_62 rfl dX9_withCost_10 w7 ?_
  refine EV.if_eq 16 18 rfl (by decide) dX9_withCost_13 (fun c8 => ?_) (fun c8 => ?_)
  · have h := h.1 c8
    refine EV.aload_n 19 rfl 0 rfl rfl dX9_withCost_18 ?_
    refine EV.getI 22 rfl fl_X9_133 rfl dX9_withCost_19 w7 ?_
    refine EV.sipush 25 rfl dX9_withCost_22 (v := 200) (by decide) ?_
    refine EV.icmp_ne 28 34 rfl (by decide) dX9_withCost_25 (fun c9 => ?_) (fun c9 => ?_)
    · have h := h.1 c9
      refine EV.aload_n 35 rfl 0 rfl rfl dX9_withCost_34 ?_
      obtain ⟨t10, g11, h⟩ := h
      refine EV.getR 38 rfl fl_X9_41 rfl dX9_withCost_35 w7 g11 ?_
      refine EV.iconst 39 rfl dX9_withCost_38 (v := 0) (by decide) ?_
      refine EV.cS rfl lk_X9_69 rfl (vs := [.ref t10, .int 0]) (st := []) rfl rfl (Nat.le_of_ble_eq_true rfl) dX9_withCost_39 h (fun v σ12 h => ?_)
      obtain ⟨rfl, h⟩ := h
      show EV Γ MX9_withCost d 42 [some (.ref v0), some (.int v1), some (.int v2), some (.int v3), none] [] σ12 Q
      refine EV.iconst 43 rfl dX9_withCost_42 (v := 0) (by decide) ?_
      refine EV.istore 45 rfl [some (.ref v0), some (.int v1), some (.int v2), some (.int v3), some (.int 0)] (by decide) rfl dX9_withCost_43 ?_
      exact h
    · have h := h.2 c9
      refine EV.aload_n 29 rfl 0 rfl rfl dX9_withCost_28 ?_
      refine EV.iconst 30 rfl dX9_withCost_29 (v := 3) (by decide) ?_
      refine EV.cV rfl rfl lk_X9_139 rfl (vs := [.int 3]) (st := []) rfl rfl (Nat.le_of_ble_eq_true rfl) dX9_withCost_30 w7 h (fun v σ14 h => ?_)
      obtain ⟨r15, rfl, h⟩ := h
      show EV Γ MX9_withCost d 33 [some (.ref v0), some (.int v1), some (.int v2), some (.int v3), none] [.int r15] σ14 Q
      exact EV.iret rfl dX9_withCost_33 h
  · have h := h.2 c8
    refine EV.iconst 17 rfl dX9_withCost_16 (v := 0) (by decide) ?_
    exact EV.iret rfl dX9_withCost_17 h
theorem eX9_withCost {Γ : Gm} {d : Nat} {σ : AH} {Q : Oc → AH → Prop} {v0 : Nat} {v1 : Int32} {v2 : Int32} {v3 : Int32} (h : hs σ v0 = some (7, 27) ∧ CI Γ d MX9_look_ [.ref v0, .int v1] σ (fun r2 σ1 => hs σ1 v0 = some (7, 27) ∧ ∀ σ5 : AH, σ5 = setI σ1 v0 0 r2 → (((gi σ5 v0 0) = 0 → (((gi σ5 v0 6) ≠ 200 → ∃ t10 : Nat, gr σ5 v0 15 = some t10 ∧ CV Γ d MX9_clear [.ref t10, .int 0] σ5 (fun σ12 => EV Γ MX9_withCost d 45 [some (.ref v0), some (.int v1), some (.int v2), some (.int v3), some (.int 0)] [] σ12 Q) (fun _ _ => False)) ∧ ((gi σ5 v0 6) = 200 → CI Γ d MX9_fail [.ref v0, .int 3] σ5 (fun r15 σ14 => Q (.inl (some (.int r15))) σ14) (fun E σ14 => Q (.inr E) σ14)))) ∧ (¬ (gi σ5 v0 0) = 0 → Q (.inl (some (.int 0))) σ5))) (fun E σ1 => Q (.inr E) σ1)) : RUN Γ d MX9_withCost [.ref v0, .int v1, .int v2, .int v3] σ Q :=
  EV.enter [some (.ref v0), some (.int v1), some (.int v2), some (.int v3), none] rfl (by decide +kernel) (Nat.le_of_ble_eq_true rfl) rfl (gX9_withCost_0 h)
theorem gX9_withCost_45 {Γ : Gm} {d : Nat} {σ : AH} {Q : Oc → AH → Prop} {v0 : Nat} {v1 : Int32} {v2 : Int32} {v3 : Int32} {v4 : Int32} (h : ((4096 ≤ v4 → hs σ v0 = some (7, 27) ∧ CI Γ d MX9_made [.ref v0] σ (fun r3 σ2 => Q (.inl (some (.int r3))) σ2) (fun E σ2 => Q (.inr E) σ2)) ∧ (¬ 4096 ≤ v4 → hs σ v0 = some (7, 27) ∧ ∃ t6 : Nat, gr σ v0 9 = some t6 ∧ CI Γ d MX9_has [.ref t6, .int v1, .int v4] σ (fun r9 σ8 => ((r9 = 0 → EV Γ MX9_withCost d 45 [some (.ref v0), some (.int v1), some (.int v2), some (.int v3), some (.int (v4 + 1))] [] σ8 Q) ∧ (¬ r9 = 0 → hs σ8 v0 = some (7, 27) ∧ CI Γ d MX9_costOf [.ref v0, .int v4] σ8 (fun r12 σ11 => ((r12 < v2 → EV Γ MX9_withCost d 45 [some (.ref v0), some (.int v1), some (.int v2), some (.int v3), some (.int (v4 + 1))] [] σ11 Q) ∧ (¬ r12 < v2 → hs σ11 v0 = some (7, 27) ∧ CI Γ d MX9_costOf [.ref v0, .int v4] σ11 (fun r16 σ15 => ((v3 < r16 → EV Γ MX9_withCost d 45 [some (.ref v0), some (.int v1), some (.int v2), some (.int v3), some (.int (v4 + 1))] [] σ15 Q) ∧ (¬ v3 < r16 → hs σ15 v0 = some (7, 27) ∧ ∃ t20 : Nat, gr σ15 v0 15 = some t20 ∧ CV Γ d MX9_put [.ref t20, .int 0, .int v4] σ15 (fun σ22 => EV Γ MX9_withCost d 45 [some (.ref v0), some (.int v1), some (.int v2), some (.int v3), some (.int (v4 + 1))] [] σ22 Q) (fun _ _ => False)))) (fun E σ15 => Q (.inr E) σ15)))) (fun E σ11 => Q (.inr E) σ11)))) (fun _ _ => False)))) : EV Γ MX9_withCost d 45 [some (.ref v0), some (.int v1), some (.int v2), some (.int v3), some (.int v4)] [] σ Q := by
  refine EV.iload 47 rfl rfl dX9_withCost_45 ?_
  refine EV.sipush 50 rfl dX9_withCost_47 (v := 4096) (by decide) ?_
  refine EV.icmp_ge 53 102 rfl (by decide) dX9_withCost_50 (fun c1 => ?_) (fun c1 => ?_)
  · have h := h.1 c1
    refine EV.aload_n 103 rfl 0 rfl rfl dX9_withCost_102 ?_
    obtain ⟨w4, h⟩ := h
    refine EV.cV rfl rfl lk_X9_204 rfl (vs := []) (st := []) rfl rfl (Nat.le_of_ble_eq_true rfl) dX9_withCost_103 w4 h (fun v σ2 h => ?_)
    obtain ⟨r3, rfl, h⟩ := h
    show EV Γ MX9_withCost d 106 [some (.ref v0), some (.int v1), some (.int v2), some (.int v3), some (.int v4)] [.int r3] σ2 Q
    exact EV.iret rfl dX9_withCost_106 h
  · have h := h.2 c1
    refine EV.aload_n 54 rfl 0 rfl rfl dX9_withCost_53 ?_
    obtain ⟨w5, h⟩ := h
    obtain ⟨t6, g7, h⟩ := h
    refine EV.getR 57 rfl fl_X9_24 rfl dX9_withCost_54 w5 g7 ?_
    refine EV.iload_n 58 rfl 1 rfl rfl dX9_withCost_57 ?_
    refine EV.iload 60 rfl rfl dX9_withCost_58 ?_
    refine EV.cS rfl lk_X9_65 rfl (vs := [.ref t6, .int v1, .int v4]) (st := []) rfl rfl (Nat.le_of_ble_eq_true rfl) dX9_withCost_60 h (fun v σ8 h => ?_)
    obtain ⟨r9, rfl, h⟩ := h
    show EV Γ MX9_withCost d 63 [some (.ref v0), some (.int v1), some (.int v2), some (.int v3), some (.int v4)] [.int r9] σ8 Q
    refine EV.if_eq 66 96 rfl (by decide) dX9_withCost_63 (fun c10 => ?_) (fun c10 => ?_)
    · have h := h.1 c10
      refine EV.iinc 99 rfl [some (.ref v0), some (.int v1), some (.int v2), some (.int v3), some (.int (v4 + 1))] (v := 1) (by decide) (by decide) rfl rfl dX9_withCost_96 ?_
      refine EV.goto 45 (by decide) dX9_withCost_99 ?_
      exact h
    · have h := h.2 c10
      refine EV.aload_n 67 rfl 0 rfl rfl dX9_withCost_66 ?_
      refine EV.iload 69 rfl rfl dX9_withCost_67 ?_
      obtain ⟨w13, h⟩ := h
      refine EV.cV rfl rfl lk_X9_257 rfl (vs := [.int v4]) (st := []) rfl rfl (Nat.le_of_ble_eq_true rfl) dX9_withCost_69 w13 h (fun v σ11 h => ?_)
      obtain ⟨r12, rfl, h⟩ := h
      show EV Γ MX9_withCost d 72 [some (.ref v0), some (.int v1), some (.int v2), some (.int v3), some (.int v4)] [.int r12] σ11 Q
      refine EV.iload_n 73 rfl 2 rfl rfl dX9_withCost_72 ?_
      refine EV.icmp_lt 76 96 rfl (by decide) dX9_withCost_73 (fun c14 => ?_) (fun c14 => ?_)
      · have h := h.1 c14
        refine EV.iinc 99 rfl [some (.ref v0), some (.int v1), some (.int v2), some (.int v3), some (.int (v4 + 1))] (v := 1) (by decide) (by decide) rfl rfl dX9_withCost_96 ?_
        refine EV.goto 45 (by decide) dX9_withCost_99 ?_
        exact h
      · have h := h.2 c14
        refine EV.aload_n 77 rfl 0 rfl rfl dX9_withCost_76 ?_
        refine EV.iload 79 rfl rfl dX9_withCost_77 ?_
        obtain ⟨w17, h⟩ := h
        refine EV.cV rfl rfl lk_X9_257 rfl (vs := [.int v4]) (st := []) rfl rfl (Nat.le_of_ble_eq_true rfl) dX9_withCost_79 w17 h (fun v σ15 h => ?_)
        obtain ⟨r16, rfl, h⟩ := h
        show EV Γ MX9_withCost d 82 [some (.ref v0), some (.int v1), some (.int v2), some (.int v3), some (.int v4)] [.int r16] σ15 Q
        refine EV.iload_n 83 rfl 3 rfl rfl dX9_withCost_82 ?_
        refine EV.icmp_gt 86 96 rfl (by decide) dX9_withCost_83 (fun c18 => ?_) (fun c18 => ?_)
        · have h := h.1 c18
          refine EV.iinc 99 rfl [some (.ref v0), some (.int v1), some (.int v2), some (.int v3), some (.int (v4 + 1))] (v := 1) (by decide) (by decide) rfl rfl dX9_withCost_96 ?_
          refine EV.goto 45 (by decide) dX9_withCost_99 ?_
          exact h
        · have h := h.2 c18
          refine EV.aload_n 87 rfl 0 rfl rfl dX9_withCost_86 ?_
          obtain ⟨w19, h⟩ := h
          obtain ⟨t20, g21, h⟩ := h
          refine EV.getR 90 rfl fl_X9_41 rfl dX9_withCost_87 w19 g21 ?_
          refine EV.iconst 91 rfl dX9_withCost_90 (v := 0) (by decide) ?_
          refine EV.iload 93 rfl rfl dX9_withCost_91 ?_
          refine EV.cS rfl lk_X9_98 rfl (vs := [.ref t20, .int 0, .int v4]) (st := []) rfl rfl (Nat.le_of_ble_eq_true rfl) dX9_withCost_93 h (fun v σ22 h => ?_)
          obtain ⟨rfl, h⟩ := h
          show EV Γ MX9_withCost d 96 [some (.ref v0), some (.int v1), some (.int v2), some (.int v3), some (.int v4)] [] σ22 Q
          refine EV.iinc 99 rfl [some (.ref v0), some (.int v1), some (.int v2), some (.int v3), some (.int (v4 + 1))] (v := 1) (by decide) (by decide) rfl rfl dX9_withCost_96 ?_
          refine EV.goto 45 (by decide) dX9_withCost_99 ?_
          exact h
theorem gX9_count_0 {Γ : Gm} {d : Nat} {σ : AH} {Q : Oc → AH → Prop} {v0 : Nat} {v1 : Int32} (h : hs σ v0 = some (7, 27) ∧ CI Γ d MX9_look_ [.ref v0, .int v1] σ (fun r2 σ1 => hs σ1 v0 = some (7, 27) ∧ ∀ σ5 : AH, σ5 = setI σ1 v0 0 r2 → (((gi σ5 v0 0) ≠ 0 → Q (.inl (some (.int 0))) σ5) ∧ ((gi σ5 v0 0) = 0 → ∃ t9 : Nat, gr σ5 v0 9 = some t9 ∧ CI Γ d MX9_many [.ref t9, .int v1] σ5 (fun r12 σ11 => Q (.inl (some (.int r12))) σ11) (fun _ _ => False)))) (fun E σ1 => Q (.inr E) σ1)) : EV Γ MX9_count d 0 [some (.ref v0), some (.int v1)] [] σ Q := by
  refine EV.aload_n 1 rfl 0 rfl rfl dX9_count_0 ?_
  refine EV.aload_n 2 rfl 0 rfl rfl dX9_count_1 ?_
  refine EV.iload_n 3 rfl 1 rfl rfl dX9_count_2 ?_
  obtain ⟨w3, h⟩ := h
  refine EV.cV rfl rfl lk_X9_220 rfl (vs := [.int v1]) (st := [.ref v0]) rfl rfl (Nat.le_of_ble_eq_true rfl) dX9_count_3 w3 h (fun v σ1 h => ?_)
  obtain ⟨r2, rfl, h⟩ := h
  show EV Γ MX9_count d 6 [some (.ref v0), some (.int v1)] [.int r2, .ref v0] σ1 Q
  obtain ⟨w4, h⟩ := h
  refine EV.putI 9 rfl fw_X9_62 rfl (by decide) dX9_count_6 w4 (EV.nm (fun σ5 e6 => ?_))
  have h := h σ5 e6
  have w7 := tr_hs (hs_setI_of e6) w4
  refine EV.aload_n 10 rfl 0 rfl rfl dX9_count_9 ?_
  refine EV.getI 13 rfl fl_X9_62 rfl dX9_count_10 w7 ?_
  refine EV.if_ne 16 27 rfl (by decide) dX9_count_13 (fun c8 => ?_) (fun c8 => ?_)
  · have h := h.1 c8
    refine EV.iconst 28 rfl dX9_count_27 (v := 0) (by decide) ?_
    exact EV.iret rfl dX9_count_28 h
  · have h := h.2 c8
    refine EV.aload_n 17 rfl 0 rfl rfl dX9_count_16 ?_
    obtain ⟨t9, g10, h⟩ := h
    refine EV.getR 20 rfl fl_X9_24 rfl dX9_count_17 w7 g10 ?_
    refine EV.iload_n 21 rfl 1 rfl rfl dX9_count_20 ?_
    refine EV.cS rfl lk_X9_213 rfl (vs := [.ref t9, .int v1]) (st := []) rfl rfl (Nat.le_of_ble_eq_true rfl) dX9_count_21 h (fun v σ11 h => ?_)
    obtain ⟨r12, rfl, h⟩ := h
    show EV Γ MX9_count d 24 [some (.ref v0), some (.int v1)] [.int r12] σ11 Q
    refine EV.goto 28 (by decide) dX9_count_24 ?_
    exact EV.iret rfl dX9_count_28 h
theorem eX9_count {Γ : Gm} {d : Nat} {σ : AH} {Q : Oc → AH → Prop} {v0 : Nat} {v1 : Int32} (h : hs σ v0 = some (7, 27) ∧ CI Γ d MX9_look_ [.ref v0, .int v1] σ (fun r2 σ1 => hs σ1 v0 = some (7, 27) ∧ ∀ σ5 : AH, σ5 = setI σ1 v0 0 r2 → (((gi σ5 v0 0) ≠ 0 → Q (.inl (some (.int 0))) σ5) ∧ ((gi σ5 v0 0) = 0 → ∃ t9 : Nat, gr σ5 v0 9 = some t9 ∧ CI Γ d MX9_many [.ref t9, .int v1] σ5 (fun r12 σ11 => Q (.inl (some (.int r12))) σ11) (fun _ _ => False)))) (fun E σ1 => Q (.inr E) σ1)) : RUN Γ d MX9_count [.ref v0, .int v1] σ Q :=
  EV.enter [some (.ref v0), some (.int v1)] rfl (by decide +kernel) (Nat.le_of_ble_eq_true rfl) rfl (gX9_count_0 h)
theorem gX9_countOfSize_0 {Γ : Gm} {d : Nat} {σ : AH} {Q : Oc → AH → Prop} {v0 : Nat} {v1 : Int32} {v2 : Int32} (h : hs σ v0 = some (7, 27) ∧ CI Γ d MX9_look_ [.ref v0, .int v1] σ (fun r2 σ1 => hs σ1 v0 = some (7, 27) ∧ ∀ σ5 : AH, σ5 = setI σ1 v0 0 r2 → EV Γ MX9_countOfSize d 14 [some (.ref v0), some (.int v1), some (.int v2), some (.int 0), some (.int 0)] [] σ5 Q) (fun E σ1 => Q (.inr E) σ1)) : EV Γ MX9_countOfSize d 0 [some (.ref v0), some (.int v1), some (.int v2), none, none] [] σ Q := by
  refine EV.aload_n 1 rfl 0 rfl rfl dX9_countOfSize_0 ?_
  refine EV.aload_n 2 rfl 0 rfl rfl dX9_countOfSize_1 ?_
  refine EV.iload_n 3 rfl 1 rfl rfl dX9_countOfSize_2 ?_
  obtain ⟨w3, h⟩ := h
  refine EV.cV rfl rfl lk_X9_220 rfl (vs := [.int v1]) (st := [.ref v0]) rfl rfl (Nat.le_of_ble_eq_true rfl) dX9_countOfSize_3 w3 h (fun v σ1 h => ?_)
  obtain ⟨r2, rfl, h⟩ := h
  show EV Γ MX9_countOfSize d 6 [some (.ref v0), some (.int v1), some (.int v2), none, none] [.int r2, .ref v0] σ1 Q
  obtain ⟨w4, h⟩ := h
  refine EV.putI 9 rfl fw_X9_62 rfl (by decide) dX9_countOfSize_6 w4 (EV.nm (fun σ5 e6 => ?_))
  have h := h σ5 e6
  have w7 := tr_hs (hs_setI_of e6) w4
  refine EV.iconst 10 rfl dX9_countOfSize_9 (v := 0) (by decide) ?_
  refine EV.istore_n 11 rfl 3 [some (.ref v0), some (.int v1), some (.int v2), some (.int 0), none] rfl (by decide) rfl dX9_countOfSize_10 ?_
  refine EV.iconst 12 rfl dX9_countOfSize_11 (v := 0) (by decide) ?_
  refine EV.istore 14 rfl [some (.ref v0), some (.int v1), some (.int v2), some (.int 0), some (.int 0)] (by decide) rfl dX9_countOfSize_12 ?_
  exact h
theorem eX9_countOfSize {Γ : Gm} {d : Nat} {σ : AH} {Q : Oc → AH → Prop} {v0 : Nat} {v1 : Int32} {v2 : Int32} (h : hs σ v0 = some (7, 27) ∧ CI Γ d MX9_look_ [.ref v0, .int v1] σ (fun r2 σ1 => hs σ1 v0 = some (7, 27) ∧ ∀ σ5 : AH, σ5 = setI σ1 v0 0 r2 → EV Γ MX9_countOfSize d 14 [some (.ref v0), some (.int v1), some (.int v2), some (.int 0), some (.int 0)] [] σ5 Q) (fun E σ1 => Q (.inr E) σ1)) : RUN Γ d MX9_countOfSize [.ref v0, .int v1, .int v2] σ Q :=
  EV.enter [some (.ref v0), some (.int v1), some (.int v2), none, none] rfl (by decide +kernel) (Nat.le_of_ble_eq_true rfl) rfl (gX9_countOfSize_0 h)
theorem gX9_countOfSize_14 {Γ : Gm} {d : Nat} {σ : AH} {Q : Oc → AH → Prop} {v0 : Nat} {v1 : Int32} {v2 : Int32} {v3 : Int32} {v4 : Int32} (h : ((4096 ≤ v4 → Q (.inl (some (.int v3))) σ) ∧ (¬ 4096 ≤ v4 → hs σ v0 = some (7, 27) ∧ (((gi σ v0 0) ≠ 0 → Q (.inl (some (.int v3))) σ) ∧ ((gi σ v0 0) = 0 → ∃ t4 : Nat, gr σ v0 9 = some t4 ∧ CI Γ d MX9_has [.ref t4, .int v1, .int v4] σ (fun r7 σ6 => ((r7 = 0 → EV Γ MX9_countOfSize d 14 [some (.ref v0), some (.int v1), some (.int v2), some (.int (v3 + 0)), some (.int (v4 + 1))] [] σ6 Q) ∧ (¬ r7 = 0 → CI Γ d MX9_elementsIn [.int v4] σ6 (fun r10 σ9 => ((r10 ≠ v2 → EV Γ MX9_countOfSize d 14 [some (.ref v0), some (.int v1), some (.int v2), some (.int (v3 + 0)), some (.int (v4 + 1))] [] σ9 Q) ∧ (r10 = v2 → EV Γ MX9_countOfSize d 14 [some (.ref v0), some (.int v1), some (.int v2), some (.int (v3 + 1)), some (.int (v4 + 1))] [] σ9 Q))) (fun _ _ => False)))) (fun _ _ => False)))))) : EV Γ MX9_countOfSize d 14 [some (.ref v0), some (.int v1), some (.int v2), some (.int v3), some (.int v4)] [] σ Q := by
  refine EV.iload 16 rfl rfl dX9_countOfSize_14 ?_
  refine EV.sipush 19 rfl dX9_countOfSize_16 (v := 4096) (by decide) ?_
  refine EV.icmp_ge 22 65 rfl (by decide) dX9_countOfSize_19 (fun c1 => ?_) (fun c1 => ?_)
  · have h := h.1 c1
    refine EV.iload_n 66 rfl 3 rfl rfl dX9_countOfSize_65 ?_
    exact EV.iret rfl dX9_countOfSize_66 h
  · have h := h.2 c1
    refine EV.aload_n 23 rfl 0 rfl rfl dX9_countOfSize_22 ?_
    obtain ⟨w2, h⟩ := h
    refine EV.getI 26 rfl fl_X9_62 rfl dX9_countOfSize_23 w2 ?_
    refine EV.if_ne 29 65 rfl (by decide) dX9_countOfSize_26 (fun c3 => ?_) (fun c3 => ?_)
    · have h := h.1 c3
      refine EV.iload_n 66 rfl 3 rfl rfl dX9_countOfSize_65 ?_
      exact EV.iret rfl dX9_countOfSize_66 h
    · have h := h.2 c3
      refine EV.iload_n 30 rfl 3 rfl rfl dX9_countOfSize_29 ?_
      refine EV.aload_n 31 rfl 0 rfl rfl dX9_countOfSize_30 ?_
      obtain ⟨t4, g5, h⟩ := h
      refine EV.getR 34 rfl fl_X9_24 rfl dX9_countOfSize_31 w2 g5 ?_
      refine EV.iload_n 35 rfl 1 rfl rfl dX9_countOfSize_34 ?_
      refine EV.iload 37 rfl rfl dX9_countOfSize_35 ?_
      refine EV.cS rfl lk_X9_65 rfl (vs := [.ref t4, .int v1, .int v4]) (st := [.int v3]) rfl rfl (Nat.le_of_ble_eq_true rfl) dX9_countOfSize_37 h (fun v σ6 h => ?_)
      obtain ⟨r7, rfl, h⟩ := h
      show EV Γ MX9_countOfSize d 40 [some (.ref v0), some (.int v1), some (.int v2), some (.int v3), some (.int v4)] [.int r7, .int v3] σ6 Q
      refine EV.if_eq 43 56 rfl (by decide) dX9_countOfSize_40 (fun c8 => ?_) (fun c8 => ?_)
      · have h := h.1 c8
        refine EV.iconst 57 rfl dX9_countOfSize_56 (v := 0) (by decide) ?_
        refine EV.iadd 58 rfl dX9_countOfSize_57 ?_
        refine EV.istore_n 59 rfl 3 [some (.ref v0), some (.int v1), some (.int v2), some (.int (v3 + 0)), some (.int v4)] rfl (by decide) rfl dX9_countOfSize_58 ?_
        refine EV.iinc 62 rfl [some (.ref v0), some (.int v1), some (.int v2), some (.int (v3 + 0)), some (.int (v4 + 1))] (v := 1) (by decide) (by decide) rfl rfl dX9_countOfSize_59 ?_
        refine EV.goto 14 (by decide) dX9_countOfSize_62 ?_
        exact h
      · have h := h.2 c8
        refine EV.iload 45 rfl rfl dX9_countOfSize_43 ?_
        refine EV.cS rfl lk_X9_228 rfl (vs := [.int v4]) (st := [.int v3]) rfl rfl (Nat.le_of_ble_eq_true rfl) dX9_countOfSize_45 h (fun v σ9 h => ?_)
        obtain ⟨r10, rfl, h⟩ := h
        show EV Γ MX9_countOfSize d 48 [some (.ref v0), some (.int v1), some (.int v2), some (.int v3), some (.int v4)] [.int r10, .int v3] σ9 Q
        refine EV.iload_n 49 rfl 2 rfl rfl dX9_countOfSize_48 ?_
        refine EV.icmp_ne 52 56 rfl (by decide) dX9_countOfSize_49 (fun c11 => ?_) (fun c11 => ?_)
        · have h := h.1 c11
          refine EV.iconst 57 rfl dX9_countOfSize_56 (v := 0) (by decide) ?_
          refine EV.iadd 58 rfl dX9_countOfSize_57 ?_
          refine EV.istore_n 59 rfl 3 [some (.ref v0), some (.int v1), some (.int v2), some (.int (v3 + 0)), some (.int v4)] rfl (by decide) rfl dX9_countOfSize_58 ?_
          refine EV.iinc 62 rfl [some (.ref v0), some (.int v1), some (.int v2), some (.int (v3 + 0)), some (.int (v4 + 1))] (v := 1) (by decide) (by decide) rfl rfl dX9_countOfSize_59 ?_
          refine EV.goto 14 (by decide) dX9_countOfSize_62 ?_
          exact h
        · have h := h.2 c11
          refine EV.iconst 53 rfl dX9_countOfSize_52 (v := 1) (by decide) ?_
          refine EV.goto 57 (by decide) dX9_countOfSize_53 ?_
          refine EV.iadd 58 rfl dX9_countOfSize_57 ?_
          refine EV.istore_n 59 rfl 3 [some (.ref v0), some (.int v1), some (.int v2), some (.int (v3 + 1)), some (.int v4)] rfl (by decide) rfl dX9_countOfSize_58 ?_
          refine EV.iinc 62 rfl [some (.ref v0), some (.int v1), some (.int v2), some (.int (v3 + 1)), some (.int (v4 + 1))] (v := 1) (by decide) (by decide) rfl rfl dX9_countOfSize_59 ?_
          refine EV.goto 14 (by decide) dX9_countOfSize_62 ?_
          exact h
theorem gX9_countWith_0 {Γ : Gm} {d : Nat} {σ : AH} {Q : Oc → AH → Prop} {v0 : Nat} {v1 : Int32} {v2 : Int32} (h : hs σ v0 = some (7, 27) ∧ CI Γ d MX9_look_ [.ref v0, .int v1] σ (fun r2 σ1 => ((r2 = 1 → hs σ1 v0 = some (7, 27) ∧ ∀ σ6 : AH, σ6 = setI σ1 v0 0 1 → EV Γ MX9_countWith d 34 [some (.ref v0), some (.int v1), some (.int v2), some (.int 0), some (.int 0)] [] σ6 Q) ∧ (¬ r2 = 1 → CI Γ d MX9_isElement [.int v2] σ1 (fun r10 σ9 => ((r10 ≠ 0 → hs σ9 v0 = some (7, 27) ∧ CI Γ d MX9_look_ [.ref v0, .int v1] σ9 (fun r13 σ12 => hs σ12 v0 = some (7, 27) ∧ ∀ σ16 : AH, σ16 = setI σ12 v0 0 r13 → EV Γ MX9_countWith d 34 [some (.ref v0), some (.int v1), some (.int v2), some (.int 0), some (.int 0)] [] σ16 Q) (fun E σ12 => Q (.inr E) σ12)) ∧ (r10 = 0 → hs σ9 v0 = some (7, 27) ∧ ∀ σ20 : AH, σ20 = setI σ9 v0 0 1 → EV Γ MX9_countWith d 34 [some (.ref v0), some (.int v1), some (.int v2), some (.int 0), some (.int 0)] [] σ20 Q))) (fun _ _ => False)))) (fun E σ1 => Q (.inr E) σ1)) : EV Γ MX9_countWith d 0 [some (.ref v0), some (.int v1), some (.int v2), none, none] [] σ Q := by
  refine EV.aload_n 1 rfl 0 rfl rfl dX9_countWith_0 ?_
  refine EV.aload_n 2 rfl 0 rfl rfl dX9_countWith_1 ?_
  refine EV.iload_n 3 rfl 1 rfl rfl dX9_countWith_2 ?_
  obtain ⟨w3, h⟩ := h
  refine EV.cV rfl rfl lk_X9_220 rfl (vs := [.int v1]) (st := [.ref v0]) rfl rfl (Nat.le_of_ble_eq_true rfl) dX9_countWith_3 w3 h (fun v σ1 h => ?_)
  obtain ⟨r2, rfl, h⟩ := h
  show EV Γ MX9_countWith d 6 [some (.ref v0), some (.int v1), some (.int v2), none, none] [.int r2, .ref v0] σ1 Q
  refine EV.iconst 7 rfl dX9_countWith_6 (v := 1) (by decide) ?_
  refine EV.icmp_eq 10 17 rfl (by decide) dX9_countWith_7 (fun c4 => ?_) (fun c4 => ?_)
  · have h := h.1 c4
    refine EV.iconst 18 rfl dX9_countWith_17 (v := 1) (by decide) ?_
    refine EV.goto 26 (by decide) dX9_countWith_18 ?_
    obtain ⟨w5, h⟩ := h
    refine EV.putI 29 rfl fw_X9_62 rfl (by decide) dX9_countWith_26 w5 (EV.nm (fun σ6 e7 => ?_))
    have h := h σ6 e7
    have w8 := tr_hs (hs_setI_of e7) w5
    refine EV.iconst 30 rfl dX9_countWith_29 (v := 0) (by decide) ?_
    refine EV.istore_n 31 rfl 3 [some (.ref v0), some (.int v1), some (.int v2), some (.int 0), none] rfl (by decide) rfl dX9_countWith_30 ?_
    refine EV.iconst 32 rfl dX9_countWith_31 (v := 0) (by decide) ?_
    refine EV.istore 34 rfl [some (.ref v0), some (.int v1), some (.int v2), some (.int 0), some (.int 0)] (by decide) rfl dX9_countWith_32 ?_
    exact h
  · have h := h.2 c4
    refine EV.iload_n 11 rfl 2 rfl rfl dX9_countWith_10 ?_
    refine EV.cS rfl lk_X9_254 rfl (vs := [.int v2]) (st := [.ref v0]) rfl rfl (Nat.le_of_ble_eq_true rfl) dX9_countWith_11 h (fun v σ9 h => ?_)
    obtain ⟨r10, rfl, h⟩ := h
    show EV Γ MX9_countWith d 14 [some (.ref v0), some (.int v1), some (.int v2), none, none] [.int r10, .ref v0] σ9 Q
    refine EV.if_ne 17 21 rfl (by decide) dX9_countWith_14 (fun c11 => ?_) (fun c11 => ?_)
    · have h := h.1 c11
      refine EV.aload_n 22 rfl 0 rfl rfl dX9_countWith_21 ?_
      refine EV.iload_n 23 rfl 1 rfl rfl dX9_countWith_22 ?_
      obtain ⟨w14, h⟩ := h
      refine EV.cV rfl rfl lk_X9_220 rfl (vs := [.int v1]) (st := [.ref v0]) rfl rfl (Nat.le_of_ble_eq_true rfl) dX9_countWith_23 w14 h (fun v σ12 h => ?_)
      obtain ⟨r13, rfl, h⟩ := h
      show EV Γ MX9_countWith d 26 [some (.ref v0), some (.int v1), some (.int v2), none, none] [.int r13, .ref v0] σ12 Q
      obtain ⟨w15, h⟩ := h
      refine EV.putI 29 rfl fw_X9_62 rfl (by decide) dX9_countWith_26 w15 (EV.nm (fun σ16 e17 => ?_))
      have h := h σ16 e17
      have w18 := tr_hs (hs_setI_of e17) w15
      refine EV.iconst 30 rfl dX9_countWith_29 (v := 0) (by decide) ?_
      refine EV.istore_n 31 rfl 3 [some (.ref v0), some (.int v1), some (.int v2), some (.int 0), none] rfl (by decide) rfl dX9_countWith_30 ?_
      refine EV.iconst 32 rfl dX9_countWith_31 (v := 0) (by decide) ?_
      refine EV.istore 34 rfl [some (.ref v0), some (.int v1), some (.int v2), some (.int 0), some (.int 0)] (by decide) rfl dX9_countWith_32 ?_
      exact h
    · have h := h.2 c11
      refine EV.iconst 18 rfl dX9_countWith_17 (v := 1) (by decide) ?_
      refine EV.goto 26 (by decide) dX9_countWith_18 ?_
      obtain ⟨w19, h⟩ := h
      refine EV.putI 29 rfl fw_X9_62 rfl (by decide) dX9_countWith_26 w19 (EV.nm (fun σ20 e21 => ?_))
      have h := h σ20 e21
      have w22 := tr_hs (hs_setI_of e21) w19
      refine EV.iconst 30 rfl dX9_countWith_29 (v := 0) (by decide) ?_
      refine EV.istore_n 31 rfl 3 [some (.ref v0), some (.int v1), some (.int v2), some (.int 0), none] rfl (by decide) rfl dX9_countWith_30 ?_
      refine EV.iconst 32 rfl dX9_countWith_31 (v := 0) (by decide) ?_
      refine EV.istore 34 rfl [some (.ref v0), some (.int v1), some (.int v2), some (.int 0), some (.int 0)] (by decide) rfl dX9_countWith_32 ?_
      exact h
theorem eX9_countWith {Γ : Gm} {d : Nat} {σ : AH} {Q : Oc → AH → Prop} {v0 : Nat} {v1 : Int32} {v2 : Int32} (h : hs σ v0 = some (7, 27) ∧ CI Γ d MX9_look_ [.ref v0, .int v1] σ (fun r2 σ1 => ((r2 = 1 → hs σ1 v0 = some (7, 27) ∧ ∀ σ6 : AH, σ6 = setI σ1 v0 0 1 → EV Γ MX9_countWith d 34 [some (.ref v0), some (.int v1), some (.int v2), some (.int 0), some (.int 0)] [] σ6 Q) ∧ (¬ r2 = 1 → CI Γ d MX9_isElement [.int v2] σ1 (fun r10 σ9 => ((r10 ≠ 0 → hs σ9 v0 = some (7, 27) ∧ CI Γ d MX9_look_ [.ref v0, .int v1] σ9 (fun r13 σ12 => hs σ12 v0 = some (7, 27) ∧ ∀ σ16 : AH, σ16 = setI σ12 v0 0 r13 → EV Γ MX9_countWith d 34 [some (.ref v0), some (.int v1), some (.int v2), some (.int 0), some (.int 0)] [] σ16 Q) (fun E σ12 => Q (.inr E) σ12)) ∧ (r10 = 0 → hs σ9 v0 = some (7, 27) ∧ ∀ σ20 : AH, σ20 = setI σ9 v0 0 1 → EV Γ MX9_countWith d 34 [some (.ref v0), some (.int v1), some (.int v2), some (.int 0), some (.int 0)] [] σ20 Q))) (fun _ _ => False)))) (fun E σ1 => Q (.inr E) σ1)) : RUN Γ d MX9_countWith [.ref v0, .int v1, .int v2] σ Q :=
  EV.enter [some (.ref v0), some (.int v1), some (.int v2), none, none] rfl (by decide +kernel) (Nat.le_of_ble_eq_true rfl) rfl (gX9_countWith_0 h)
theorem gX9_countWith_34 {Γ : Gm} {d : Nat} {σ : AH} {Q : Oc → AH → Prop} {v0 : Nat} {v1 : Int32} {v2 : Int32} {v3 : Int32} {v4 : Int32} (h : ((4096 ≤ v4 → Q (.inl (some (.int v3))) σ) ∧ (¬ 4096 ≤ v4 → hs σ v0 = some (7, 27) ∧ (((gi σ v0 0) ≠ 0 → Q (.inl (some (.int v3))) σ) ∧ ((gi σ v0 0) = 0 → ∃ t4 : Nat, gr σ v0 9 = some t4 ∧ CI Γ d MX9_has [.ref t4, .int v1, .int v4] σ (fun r7 σ6 => ((r7 = 0 → EV Γ MX9_countWith d 34 [some (.ref v0), some (.int v1), some (.int v2), some (.int (v3 + 0)), some (.int (v4 + 1))] [] σ6 Q) ∧ (¬ r7 = 0 → ((((v4 >>> (v2 &&& 31)) &&& 1) ≠ 1 → EV Γ MX9_countWith d 34 [some (.ref v0), some (.int v1), some (.int v2), some (.int (v3 + 0)), some (.int (v4 + 1))] [] σ6 Q) ∧ (((v4 >>> (v2 &&& 31)) &&& 1) = 1 → EV Γ MX9_countWith d 34 [some (.ref v0), some (.int v1), some (.int v2), some (.int (v3 + 1)), some (.int (v4 + 1))] [] σ6 Q))))) (fun _ _ => False)))))) : EV Γ MX9_countWith d 34 [some (.ref v0), some (.int v1), some (.int v2), some (.int v3), some (.int v4)] [] σ Q := by
  refine EV.iload 36 rfl rfl dX9_countWith_34 ?_
  refine EV.sipush 39 rfl dX9_countWith_36 (v := 4096) (by decide) ?_
  refine EV.icmp_ge 42 86 rfl (by decide) dX9_countWith_39 (fun c1 => ?_) (fun c1 => ?_)
  · have h := h.1 c1
    refine EV.iload_n 87 rfl 3 rfl rfl dX9_countWith_86 ?_
    exact EV.iret rfl dX9_countWith_87 h
  · have h := h.2 c1
    refine EV.aload_n 43 rfl 0 rfl rfl dX9_countWith_42 ?_
    obtain ⟨w2, h⟩ := h
    refine EV.getI 46 rfl fl_X9_62 rfl dX9_countWith_43 w2 ?_
    refine EV.if_ne 49 86 rfl (by decide) dX9_countWith_46 (fun c3 => ?_) (fun c3 => ?_)
    · have h := h.1 c3
      refine EV.iload_n 87 rfl 3 rfl rfl dX9_countWith_86 ?_
      exact EV.iret rfl dX9_countWith_87 h
    · have h := h.2 c3
      refine EV.iload_n 50 rfl 3 rfl rfl dX9_countWith_49 ?_
      refine EV.aload_n 51 rfl 0 rfl rfl dX9_countWith_50 ?_
      obtain ⟨t4, g5, h⟩ := h
      refine EV.getR 54 rfl fl_X9_24 rfl dX9_countWith_51 w2 g5 ?_
      refine EV.iload_n 55 rfl 1 rfl rfl dX9_countWith_54 ?_
      refine EV.iload 57 rfl rfl dX9_countWith_55 ?_
      refine EV.cS rfl lk_X9_65 rfl (vs := [.ref t4, .int v1, .int v4]) (st := [.int v3]) rfl rfl (Nat.le_of_ble_eq_true rfl) dX9_countWith_57 h (fun v σ6 h => ?_)
      obtain ⟨r7, rfl, h⟩ := h
      show EV Γ MX9_countWith d 60 [some (.ref v0), some (.int v1), some (.int v2), some (.int v3), some (.int v4)] [.int r7, .int v3] σ6 Q
      refine EV.if_eq 63 77 rfl (by decide) dX9_countWith_60 (fun c8 => ?_) (fun c8 => ?_)
      · have h := h.1 c8
        refine EV.iconst 78 rfl dX9_countWith_77 (v := 0) (by decide) ?_
        refine EV.iadd 79 rfl dX9_countWith_78 ?_
        refine EV.istore_n 80 rfl 3 [some (.ref v0), some (.int v1), some (.int v2), some (.int (v3 + 0)), some (.int v4)] rfl (by decide) rfl dX9_countWith_79 ?_
        refine EV.iinc 83 rfl [some (.ref v0), some (.int v1), some (.int v2), some (.int (v3 + 0)), some (.int (v4 + 1))] (v := 1) (by decide) (by decide) rfl rfl dX9_countWith_80 ?_
        refine EV.goto 34 (by decide) dX9_countWith_83 ?_
        exact h
      · have h := h.2 c8
        refine EV.iload 65 rfl rfl dX9_countWith_63 ?_
        refine EV.iload_n 66 rfl 2 rfl rfl dX9_countWith_65 ?_
        refine EV.ishr 67 rfl dX9_countWith_66 ?_
        refine EV.iconst 68 rfl dX9_countWith_67 (v := 1) (by decide) ?_
        refine EV.iand 69 rfl dX9_countWith_68 ?_
        refine EV.iconst 70 rfl dX9_countWith_69 (v := 1) (by decide) ?_
        refine EV.icmp_ne 73 77 rfl (by decide) dX9_countWith_70 (fun c9 => ?_) (fun c9 => ?_)
        · have h := h.1 c9
          refine EV.iconst 78 rfl dX9_countWith_77 (v := 0) (by decide) ?_
          refine EV.iadd 79 rfl dX9_countWith_78 ?_
          refine EV.istore_n 80 rfl 3 [some (.ref v0), some (.int v1), some (.int v2), some (.int (v3 + 0)), some (.int v4)] rfl (by decide) rfl dX9_countWith_79 ?_
          refine EV.iinc 83 rfl [some (.ref v0), some (.int v1), some (.int v2), some (.int (v3 + 0)), some (.int (v4 + 1))] (v := 1) (by decide) (by decide) rfl rfl dX9_countWith_80 ?_
          refine EV.goto 34 (by decide) dX9_countWith_83 ?_
          exact h
        · have h := h.2 c9
          refine EV.iconst 74 rfl dX9_countWith_73 (v := 1) (by decide) ?_
          refine EV.goto 78 (by decide) dX9_countWith_74 ?_
          refine EV.iadd 79 rfl dX9_countWith_78 ?_
          refine EV.istore_n 80 rfl 3 [some (.ref v0), some (.int v1), some (.int v2), some (.int (v3 + 1)), some (.int v4)] rfl (by decide) rfl dX9_countWith_79 ?_
          refine EV.iinc 83 rfl [some (.ref v0), some (.int v1), some (.int v2), some (.int (v3 + 1)), some (.int (v4 + 1))] (v := 1) (by decide) (by decide) rfl rfl dX9_countWith_80 ?_
          refine EV.goto 34 (by decide) dX9_countWith_83 ?_
          exact h
theorem gX9_contains_0 {Γ : Gm} {d : Nat} {σ : AH} {Q : Oc → AH → Prop} {v0 : Nat} {v1 : Int32} {v2 : Int32} (h : hs σ v0 = some (7, 27) ∧ CI Γ d MX9_look_ [.ref v0, .int v1] σ (fun r2 σ1 => hs σ1 v0 = some (7, 27) ∧ ∀ σ5 : AH, σ5 = setI σ1 v0 0 r2 → (((gi σ5 v0 0) ≠ 0 → Q (.inl (some (.int 0))) σ5) ∧ ((gi σ5 v0 0) = 0 → CI Γ d MX9_isMask [.int v2] σ5 (fun r10 σ9 => ((r10 = 0 → Q (.inl (some (.int 0))) σ9) ∧ (¬ r10 = 0 → hs σ9 v0 = some (7, 27) ∧ ∃ t13 : Nat, gr σ9 v0 9 = some t13 ∧ CI Γ d MX9_has [.ref t13, .int v1, .int v2] σ9 (fun r16 σ15 => ((r16 = 0 → Q (.inl (some (.int 0))) σ15) ∧ (¬ r16 = 0 → Q (.inl (some (.int 1))) σ15))) (fun _ _ => False)))) (fun _ _ => False)))) (fun E σ1 => Q (.inr E) σ1)) : EV Γ MX9_contains d 0 [some (.ref v0), some (.int v1), some (.int v2)] [] σ Q := by
  refine EV.aload_n 1 rfl 0 rfl rfl dX9_contains_0 ?_
  refine EV.aload_n 2 rfl 0 rfl rfl dX9_contains_1 ?_
  refine EV.iload_n 3 rfl 1 rfl rfl dX9_contains_2 ?_
  obtain ⟨w3, h⟩ := h
  refine EV.cV rfl rfl lk_X9_220 rfl (vs := [.int v1]) (st := [.ref v0]) rfl rfl (Nat.le_of_ble_eq_true rfl) dX9_contains_3 w3 h (fun v σ1 h => ?_)
  obtain ⟨r2, rfl, h⟩ := h
  show EV Γ MX9_contains d 6 [some (.ref v0), some (.int v1), some (.int v2)] [.int r2, .ref v0] σ1 Q
  obtain ⟨w4, h⟩ := h
  refine EV.putI 9 rfl fw_X9_62 rfl (by decide) dX9_contains_6 w4 (EV.nm (fun σ5 e6 => ?_))
  have h := h σ5 e6
  have w7 := tr_hs (hs_setI_of e6) w4
  refine EV.aload_n 10 rfl 0 rfl rfl dX9_contains_9 ?_
  refine EV.getI 13 rfl fl_X9_62 rfl dX9_contains_10 w7 ?_
  refine EV.if_ne 16 39 rfl (by decide) dX9_contains_13 (fun c8 => ?_) (fun c8 => ?_)
  · have h := h.1 c8
    refine EV.iconst 40 rfl dX9_contains_39 (v := 0) (by decide) ?_
    exact EV.zret rfl rfl dX9_contains_40 h
  · have h := h.2 c8
    refine EV.iload_n 17 rfl 2 rfl rfl dX9_contains_16 ?_
    refine EV.cS rfl lk_X9_237 rfl (vs := [.int v2]) (st := []) rfl rfl (Nat.le_of_ble_eq_true rfl) dX9_contains_17 h (fun v σ9 h => ?_)
    obtain ⟨r10, rfl, h⟩ := h
    show EV Γ MX9_contains d 20 [some (.ref v0), some (.int v1), some (.int v2)] [.int r10] σ9 Q
    refine EV.if_eq 23 39 rfl (by decide) dX9_contains_20 (fun c11 => ?_) (fun c11 => ?_)
    · have h := h.1 c11
      refine EV.iconst 40 rfl dX9_contains_39 (v := 0) (by decide) ?_
      exact EV.zret rfl rfl dX9_contains_40 h
    · have h := h.2 c11
      refine EV.aload_n 24 rfl 0 rfl rfl dX9_contains_23 ?_
      obtain ⟨w12, h⟩ := h
      obtain ⟨t13, g14, h⟩ := h
      refine EV.getR 27 rfl fl_X9_24 rfl dX9_contains_24 w12 g14 ?_
      refine EV.iload_n 28 rfl 1 rfl rfl dX9_contains_27 ?_
      refine EV.iload_n 29 rfl 2 rfl rfl dX9_contains_28 ?_
      refine EV.cS rfl lk_X9_65 rfl (vs := [.ref t13, .int v1, .int v2]) (st := []) rfl rfl (Nat.le_of_ble_eq_true rfl) dX9_contains_29 h (fun v σ15 h => ?_)
      obtain ⟨r16, rfl, h⟩ := h
      show EV Γ MX9_contains d 32 [some (.ref v0), some (.int v1), some (.int v2)] [.int r16] σ15 Q
      refine EV.if_eq 35 39 rfl (by decide) dX9_contains_32 (fun c17 => ?_) (fun c17 => ?_)
      · have h := h.1 c17
        refine EV.iconst 40 rfl dX9_contains_39 (v := 0) (by decide) ?_
        exact EV.zret rfl rfl dX9_contains_40 h
      · have h := h.2 c17
        refine EV.iconst 36 rfl dX9_contains_35 (v := 1) (by decide) ?_
        refine EV.goto 40 (by decide) dX9_contains_36 ?_
        exact EV.zret rfl rfl dX9_contains_40 h
theorem eX9_contains {Γ : Gm} {d : Nat} {σ : AH} {Q : Oc → AH → Prop} {v0 : Nat} {v1 : Int32} {v2 : Int32} (h : hs σ v0 = some (7, 27) ∧ CI Γ d MX9_look_ [.ref v0, .int v1] σ (fun r2 σ1 => hs σ1 v0 = some (7, 27) ∧ ∀ σ5 : AH, σ5 = setI σ1 v0 0 r2 → (((gi σ5 v0 0) ≠ 0 → Q (.inl (some (.int 0))) σ5) ∧ ((gi σ5 v0 0) = 0 → CI Γ d MX9_isMask [.int v2] σ5 (fun r10 σ9 => ((r10 = 0 → Q (.inl (some (.int 0))) σ9) ∧ (¬ r10 = 0 → hs σ9 v0 = some (7, 27) ∧ ∃ t13 : Nat, gr σ9 v0 9 = some t13 ∧ CI Γ d MX9_has [.ref t13, .int v1, .int v2] σ9 (fun r16 σ15 => ((r16 = 0 → Q (.inl (some (.int 0))) σ15) ∧ (¬ r16 = 0 → Q (.inl (some (.int 1))) σ15))) (fun _ _ => False)))) (fun _ _ => False)))) (fun E σ1 => Q (.inr E) σ1)) : RUN Γ d MX9_contains [.ref v0, .int v1, .int v2] σ Q :=
  EV.enter [some (.ref v0), some (.int v1), some (.int v2)] rfl (by decide +kernel) (Nat.le_of_ble_eq_true rfl) rfl (gX9_contains_0 h)
theorem gX9_areEqual_0 {Γ : Gm} {d : Nat} {σ : AH} {Q : Oc → AH → Prop} {v0 : Nat} {v1 : Int32} {v2 : Int32} (h : hs σ v0 = some (7, 27) ∧ CI Γ d MX9_look__ [.ref v0, .int v1, .int v2] σ (fun r2 σ1 => hs σ1 v0 = some (7, 27) ∧ ∀ σ5 : AH, σ5 = setI σ1 v0 0 r2 → (((gi σ5 v0 0) ≠ 0 → EV Γ MX9_areEqual d 26 [some (.ref v0), some (.int v1), some (.int v2), some (.int 0), some (.int 0)] [] σ5 Q) ∧ ((gi σ5 v0 0) = 0 → EV Γ MX9_areEqual d 26 [some (.ref v0), some (.int v1), some (.int v2), some (.int 1), some (.int 0)] [] σ5 Q))) (fun E σ1 => Q (.inr E) σ1)) : EV Γ MX9_areEqual d 0 [some (.ref v0), some (.int v1), some (.int v2), none, none] [] σ Q := by
  refine EV.aload_n 1 rfl 0 rfl rfl dX9_areEqual_0 ?_
  refine EV.aload_n 2 rfl 0 rfl rfl dX9_areEqual_1 ?_
  refine EV.iload_n 3 rfl 1 rfl rfl dX9_areEqual_2 ?_
  refine EV.iload_n 4 rfl 2 rfl rfl dX9_areEqual_3 ?_
  obtain ⟨w3, h⟩ := h
  refine EV.cV rfl rfl lk_X9_246 rfl (vs := [.int v1, .int v2]) (st := [.ref v0]) rfl rfl (Nat.le_of_ble_eq_true rfl) dX9_areEqual_4 w3 h (fun v σ1 h => ?_)
  obtain ⟨r2, rfl, h⟩ := h
  show EV Γ MX9_areEqual d 7 [some (.ref v0), some (.int v1), some (.int v2), none, none] [.int r2, .ref v0] σ1 Q
  obtain ⟨w4, h⟩ := h
  refine EV.putI 10 rfl fw_X9_62 rfl (by decide) dX9_areEqual_7 w4 (EV.nm (fun σ5 e6 => ?_))
  have h := h σ5 e6
  have w7 := tr_hs (hs_setI_of e6) w4
  refine EV.aload_n 11 rfl 0 rfl rfl dX9_areEqual_10 ?_
  refine EV.getI 14 rfl fl_X9_62 rfl dX9_areEqual_11 w7 ?_
  refine EV.if_ne 17 21 rfl (by decide) dX9_areEqual_14 (fun c8 => ?_) (fun c8 => ?_)
  · have h := h.1 c8
    refine EV.iconst 22 rfl dX9_areEqual_21 (v := 0) (by decide) ?_
    refine EV.istore_n 23 rfl 3 [some (.ref v0), some (.int v1), some (.int v2), some (.int 0), none] rfl (by decide) rfl dX9_areEqual_22 ?_
    refine EV.iconst 24 rfl dX9_areEqual_23 (v := 0) (by decide) ?_
    refine EV.istore 26 rfl [some (.ref v0), some (.int v1), some (.int v2), some (.int 0), some (.int 0)] (by decide) rfl dX9_areEqual_24 ?_
    exact h
  · have h := h.2 c8
    refine EV.iconst 18 rfl dX9_areEqual_17 (v := 1) (by decide) ?_
    refine EV.goto 22 (by decide) dX9_areEqual_18 ?_
    refine EV.istore_n 23 rfl 3 [some (.ref v0), some (.int v1), some (.int v2), some (.int 1), none] rfl (by decide) rfl dX9_areEqual_22 ?_
    refine EV.iconst 24 rfl dX9_areEqual_23 (v := 0) (by decide) ?_
    refine EV.istore 26 rfl [some (.ref v0), some (.int v1), some (.int v2), some (.int 1), some (.int 0)] (by decide) rfl dX9_areEqual_24 ?_
    exact h
theorem eX9_areEqual {Γ : Gm} {d : Nat} {σ : AH} {Q : Oc → AH → Prop} {v0 : Nat} {v1 : Int32} {v2 : Int32} (h : hs σ v0 = some (7, 27) ∧ CI Γ d MX9_look__ [.ref v0, .int v1, .int v2] σ (fun r2 σ1 => hs σ1 v0 = some (7, 27) ∧ ∀ σ5 : AH, σ5 = setI σ1 v0 0 r2 → (((gi σ5 v0 0) ≠ 0 → EV Γ MX9_areEqual d 26 [some (.ref v0), some (.int v1), some (.int v2), some (.int 0), some (.int 0)] [] σ5 Q) ∧ ((gi σ5 v0 0) = 0 → EV Γ MX9_areEqual d 26 [some (.ref v0), some (.int v1), some (.int v2), some (.int 1), some (.int 0)] [] σ5 Q))) (fun E σ1 => Q (.inr E) σ1)) : RUN Γ d MX9_areEqual [.ref v0, .int v1, .int v2] σ Q :=
  EV.enter [some (.ref v0), some (.int v1), some (.int v2), none, none] rfl (by decide +kernel) (Nat.le_of_ble_eq_true rfl) rfl (gX9_areEqual_0 h)
theorem gX9_areEqual_26 {Γ : Gm} {d : Nat} {σ : AH} {Q : Oc → AH → Prop} {v0 : Nat} {v1 : Int32} {v2 : Int32} {v3 : Int32} {v4 : Int32} (h : ((64 ≤ v4 → (narrow .boolean (.int v3) = .int v3 ∧ Q (.inl (some (.int v3))) σ)) ∧ (¬ 64 ≤ v4 → ((v3 = 0 → (narrow .boolean (.int v3) = .int v3 ∧ Q (.inl (some (.int v3))) σ)) ∧ (¬ v3 = 0 → hs σ v0 = some (7, 27) ∧ ∃ t4 : Nat, gr σ v0 9 = some t4 ∧ ∃ n7 : Nat, hs σ t4 = some (23, n7) ∧ ∃ j8 : Nat, IX (((64 : Int32) * v1) + v4) n7 j8 ∧ ∃ j10 : Nat, IX (((64 : Int32) * v2) + v4) n7 j10 ∧ (((lg_cmp (gj σ t4 j8) (gj σ t4 j10)) ≠ 0 → EV Γ MX9_areEqual d 26 [some (.ref v0), some (.int v1), some (.int v2), some (.int 0), some (.int (v4 + 1))] [] σ Q) ∧ ((lg_cmp (gj σ t4 j8) (gj σ t4 j10)) = 0 → EV Γ MX9_areEqual d 26 [some (.ref v0), some (.int v1), some (.int v2), some (.int 1), some (.int (v4 + 1))] [] σ Q))))))) : EV Γ MX9_areEqual d 26 [some (.ref v0), some (.int v1), some (.int v2), some (.int v3), some (.int v4)] [] σ Q := by
  refine EV.iload 28 rfl rfl dX9_areEqual_26 ?_
  refine EV.bipush 30 rfl dX9_areEqual_28 (v := 64) (by decide) ?_
  refine EV.icmp_ge 33 77 rfl (by decide) dX9_areEqual_30 (fun c1 => ?_) (fun c1 => ?_)
  · have h := h.1 c1
    refine EV.iload_n 78 rfl 3 rfl rfl dX9_areEqual_77 ?_
    exact EV.zret rfl h.1 dX9_areEqual_78 h.2
  · have h := h.2 c1
    refine EV.iload_n 34 rfl 3 rfl rfl dX9_areEqual_33 ?_
    refine EV.if_eq 37 77 rfl (by decide) dX9_areEqual_34 (fun c2 => ?_) (fun c2 => ?_)
    · have h := h.1 c2
      refine EV.iload_n 78 rfl 3 rfl rfl dX9_areEqual_77 ?_
      exact EV.zret rfl h.1 dX9_areEqual_78 h.2
    · have h := h.2 c2
      refine EV.aload_n 38 rfl 0 rfl rfl dX9_areEqual_37 ?_
      obtain ⟨w3, h⟩ := h
      obtain ⟨t4, g5, h⟩ := h
      refine EV.getR 41 rfl fl_X9_24 rfl dX9_areEqual_38 w3 g5 ?_
      refine EV.bipush 43 rfl dX9_areEqual_41 (v := 64) (by decide) ?_
      refine EV.iload_n 44 rfl 1 rfl rfl dX9_areEqual_43 ?_
      refine EV.imul 45 rfl dX9_areEqual_44 ?_
      refine EV.iload 47 rfl rfl dX9_areEqual_45 ?_
      refine EV.iadd 48 rfl dX9_areEqual_47 ?_
      obtain ⟨n7, w6, h⟩ := h
      obtain ⟨j8, x9, h⟩ := h
      refine EV.lald 49 rfl dX9_areEqual_48 w6 x9 ?_
      refine EV.aload_n 50 rfl 0 rfl rfl dX9_areEqual_49 ?_
      refine EV.getR 53 rfl fl_X9_24 rfl dX9_areEqual_50 w3 g5 ?_
      refine EV.bipush 55 rfl dX9_areEqual_53 (v := 64) (by decide) ?_
      refine EV.iload_n 56 rfl 2 rfl rfl dX9_areEqual_55 ?_
      refine EV.imul 57 rfl dX9_areEqual_56 ?_
      refine EV.iload 59 rfl rfl dX9_areEqual_57 ?_
      refine EV.iadd 60 rfl dX9_areEqual_59 ?_
      obtain ⟨j10, x11, h⟩ := h
      refine EV.lald 61 rfl dX9_areEqual_60 w6 x11 ?_
      refine EV.lcmp 62 rfl dX9_areEqual_61 ?_
      refine EV.if_ne 65 69 rfl (by decide) dX9_areEqual_62 (fun c12 => ?_) (fun c12 => ?_)
      · have h := h.1 c12
        refine EV.iconst 70 rfl dX9_areEqual_69 (v := 0) (by decide) ?_
        refine EV.istore_n 71 rfl 3 [some (.ref v0), some (.int v1), some (.int v2), some (.int 0), some (.int v4)] rfl (by decide) rfl dX9_areEqual_70 ?_
        refine EV.iinc 74 rfl [some (.ref v0), some (.int v1), some (.int v2), some (.int 0), some (.int (v4 + 1))] (v := 1) (by decide) (by decide) rfl rfl dX9_areEqual_71 ?_
        refine EV.goto 26 (by decide) dX9_areEqual_74 ?_
        exact h
      · have h := h.2 c12
        refine EV.iconst 66 rfl dX9_areEqual_65 (v := 1) (by decide) ?_
        refine EV.goto 70 (by decide) dX9_areEqual_66 ?_
        refine EV.istore_n 71 rfl 3 [some (.ref v0), some (.int v1), some (.int v2), some (.int 1), some (.int v4)] rfl (by decide) rfl dX9_areEqual_70 ?_
        refine EV.iinc 74 rfl [some (.ref v0), some (.int v1), some (.int v2), some (.int 1), some (.int (v4 + 1))] (v := 1) (by decide) (by decide) rfl rfl dX9_areEqual_71 ?_
        refine EV.goto 26 (by decide) dX9_areEqual_74 ?_
        exact h
theorem gX9_isPartOf_0 {Γ : Gm} {d : Nat} {σ : AH} {Q : Oc → AH → Prop} {v0 : Nat} {v1 : Int32} {v2 : Int32} (h : hs σ v0 = some (7, 27) ∧ CI Γ d MX9_look__ [.ref v0, .int v1, .int v2] σ (fun r2 σ1 => hs σ1 v0 = some (7, 27) ∧ ∀ σ5 : AH, σ5 = setI σ1 v0 0 r2 → (((gi σ5 v0 0) ≠ 0 → EV Γ MX9_isPartOf d 26 [some (.ref v0), some (.int v1), some (.int v2), some (.int 0), some (.int 0)] [] σ5 Q) ∧ ((gi σ5 v0 0) = 0 → EV Γ MX9_isPartOf d 26 [some (.ref v0), some (.int v1), some (.int v2), some (.int 1), some (.int 0)] [] σ5 Q))) (fun E σ1 => Q (.inr E) σ1)) : EV Γ MX9_isPartOf d 0 [some (.ref v0), some (.int v1), some (.int v2), none, none] [] σ Q := by
  refine EV.aload_n 1 rfl 0 rfl rfl dX9_isPartOf_0 ?_
  refine EV.aload_n 2 rfl 0 rfl rfl dX9_isPartOf_1 ?_
  refine EV.iload_n 3 rfl 1 rfl rfl dX9_isPartOf_2 ?_
  refine EV.iload_n 4 rfl 2 rfl rfl dX9_isPartOf_3 ?_
  obtain ⟨w3, h⟩ := h
  refine EV.cV rfl rfl lk_X9_246 rfl (vs := [.int v1, .int v2]) (st := [.ref v0]) rfl rfl (Nat.le_of_ble_eq_true rfl) dX9_isPartOf_4 w3 h (fun v σ1 h => ?_)
  obtain ⟨r2, rfl, h⟩ := h
  show EV Γ MX9_isPartOf d 7 [some (.ref v0), some (.int v1), some (.int v2), none, none] [.int r2, .ref v0] σ1 Q
  obtain ⟨w4, h⟩ := h
  refine EV.putI 10 rfl fw_X9_62 rfl (by decide) dX9_isPartOf_7 w4 (EV.nm (fun σ5 e6 => ?_))
  have h := h σ5 e6
  have w7 := tr_hs (hs_setI_of e6) w4
  refine EV.aload_n 11 rfl 0 rfl rfl dX9_isPartOf_10 ?_
  refine EV.getI 14 rfl fl_X9_62 rfl dX9_isPartOf_11 w7 ?_
  refine EV.if_ne 17 21 rfl (by decide) dX9_isPartOf_14 (fun c8 => ?_) (fun c8 => ?_)
  · have h := h.1 c8
    refine EV.iconst 22 rfl dX9_isPartOf_21 (v := 0) (by decide) ?_
    refine EV.istore_n 23 rfl 3 [some (.ref v0), some (.int v1), some (.int v2), some (.int 0), none] rfl (by decide) rfl dX9_isPartOf_22 ?_
    refine EV.iconst 24 rfl dX9_isPartOf_23 (v := 0) (by decide) ?_
    refine EV.istore 26 rfl [some (.ref v0), some (.int v1), some (.int v2), some (.int 0), some (.int 0)] (by decide) rfl dX9_isPartOf_24 ?_
    exact h
  · have h := h.2 c8
    refine EV.iconst 18 rfl dX9_isPartOf_17 (v := 1) (by decide) ?_
    refine EV.goto 22 (by decide) dX9_isPartOf_18 ?_
    refine EV.istore_n 23 rfl 3 [some (.ref v0), some (.int v1), some (.int v2), some (.int 1), none] rfl (by decide) rfl dX9_isPartOf_22 ?_
    refine EV.iconst 24 rfl dX9_isPartOf_23 (v := 0) (by decide) ?_
    refine EV.istore 26 rfl [some (.ref v0), some (.int v1), some (.int v2), some (.int 1), some (.int 0)] (by decide) rfl dX9_isPartOf_24 ?_
    exact h
theorem eX9_isPartOf {Γ : Gm} {d : Nat} {σ : AH} {Q : Oc → AH → Prop} {v0 : Nat} {v1 : Int32} {v2 : Int32} (h : hs σ v0 = some (7, 27) ∧ CI Γ d MX9_look__ [.ref v0, .int v1, .int v2] σ (fun r2 σ1 => hs σ1 v0 = some (7, 27) ∧ ∀ σ5 : AH, σ5 = setI σ1 v0 0 r2 → (((gi σ5 v0 0) ≠ 0 → EV Γ MX9_isPartOf d 26 [some (.ref v0), some (.int v1), some (.int v2), some (.int 0), some (.int 0)] [] σ5 Q) ∧ ((gi σ5 v0 0) = 0 → EV Γ MX9_isPartOf d 26 [some (.ref v0), some (.int v1), some (.int v2), some (.int 1), some (.int 0)] [] σ5 Q))) (fun E σ1 => Q (.inr E) σ1)) : RUN Γ d MX9_isPartOf [.ref v0, .int v1, .int v2] σ Q :=
  EV.enter [some (.ref v0), some (.int v1), some (.int v2), none, none] rfl (by decide +kernel) (Nat.le_of_ble_eq_true rfl) rfl (gX9_isPartOf_0 h)
theorem gX9_isPartOf_26 {Γ : Gm} {d : Nat} {σ : AH} {Q : Oc → AH → Prop} {v0 : Nat} {v1 : Int32} {v2 : Int32} {v3 : Int32} {v4 : Int32} (h : ((64 ≤ v4 → (narrow .boolean (.int v3) = .int v3 ∧ Q (.inl (some (.int v3))) σ)) ∧ (¬ 64 ≤ v4 → ((v3 = 0 → (narrow .boolean (.int v3) = .int v3 ∧ Q (.inl (some (.int v3))) σ)) ∧ (¬ v3 = 0 → hs σ v0 = some (7, 27) ∧ ∃ t4 : Nat, gr σ v0 9 = some t4 ∧ ∃ n7 : Nat, hs σ t4 = some (23, n7) ∧ ∃ j8 : Nat, IX (((64 : Int32) * v1) + v4) n7 j8 ∧ ∃ j10 : Nat, IX (((64 : Int32) * v2) + v4) n7 j10 ∧ (((lg_cmp ((gj σ t4 j8) &&& ((gj σ t4 j10) ^^^ (-1))) 0) ≠ 0 → EV Γ MX9_isPartOf d 26 [some (.ref v0), some (.int v1), some (.int v2), some (.int 0), some (.int (v4 + 1))] [] σ Q) ∧ ((lg_cmp ((gj σ t4 j8) &&& ((gj σ t4 j10) ^^^ (-1))) 0) = 0 → EV Γ MX9_isPartOf d 26 [some (.ref v0), some (.int v1), some (.int v2), some (.int 1), some (.int (v4 + 1))] [] σ Q))))))) : EV Γ MX9_isPartOf d 26 [some (.ref v0), some (.int v1), some (.int v2), some (.int v3), some (.int v4)] [] σ Q := by
  refine EV.iload 28 rfl rfl dX9_isPartOf_26 ?_
  refine EV.bipush 30 rfl dX9_isPartOf_28 (v := 64) (by decide) ?_
  refine EV.icmp_ge 33 83 rfl (by decide) dX9_isPartOf_30 (fun c1 => ?_) (fun c1 => ?_)
  · have h := h.1 c1
    refine EV.iload_n 84 rfl 3 rfl rfl dX9_isPartOf_83 ?_
    exact EV.zret rfl h.1 dX9_isPartOf_84 h.2
  · have h := h.2 c1
    refine EV.iload_n 34 rfl 3 rfl rfl dX9_isPartOf_33 ?_
    refine EV.if_eq 37 83 rfl (by decide) dX9_isPartOf_34 (fun c2 => ?_) (fun c2 => ?_)
    · have h := h.1 c2
      refine EV.iload_n 84 rfl 3 rfl rfl dX9_isPartOf_83 ?_
      exact EV.zret rfl h.1 dX9_isPartOf_84 h.2
    · have h := h.2 c2
      refine EV.aload_n 38 rfl 0 rfl rfl dX9_isPartOf_37 ?_
      obtain ⟨w3, h⟩ := h
      obtain ⟨t4, g5, h⟩ := h
      refine EV.getR 41 rfl fl_X9_24 rfl dX9_isPartOf_38 w3 g5 ?_
      refine EV.bipush 43 rfl dX9_isPartOf_41 (v := 64) (by decide) ?_
      refine EV.iload_n 44 rfl 1 rfl rfl dX9_isPartOf_43 ?_
      refine EV.imul 45 rfl dX9_isPartOf_44 ?_
      refine EV.iload 47 rfl rfl dX9_isPartOf_45 ?_
      refine EV.iadd 48 rfl dX9_isPartOf_47 ?_
      obtain ⟨n7, w6, h⟩ := h
      obtain ⟨j8, x9, h⟩ := h
      refine EV.lald 49 rfl dX9_isPartOf_48 w6 x9 ?_
      refine EV.aload_n 50 rfl 0 rfl rfl dX9_isPartOf_49 ?_
      refine EV.getR 53 rfl fl_X9_24 rfl dX9_isPartOf_50 w3 g5 ?_
      refine EV.bipush 55 rfl dX9_isPartOf_53 (v := 64) (by decide) ?_
      refine EV.iload_n 56 rfl 2 rfl rfl dX9_isPartOf_55 ?_
      refine EV.imul 57 rfl dX9_isPartOf_56 ?_
      refine EV.iload 59 rfl rfl dX9_isPartOf_57 ?_
      refine EV.iadd 60 rfl dX9_isPartOf_59 ?_
      obtain ⟨j10, x11, h⟩ := h
      refine EV.lald 61 rfl dX9_isPartOf_60 w6 x11 ?_
      refine EV.ldc2 64 rfl k_X9_105 dX9_isPartOf_61 ?_
      refine EV.lxor 65 rfl dX9_isPartOf_64 ?_
      refine EV.land 66 rfl dX9_isPartOf_65 ?_
      refine EV.lconst 67 rfl dX9_isPartOf_66 (v := 0) (by decide) ?_
      refine EV.lcmp 68 rfl dX9_isPartOf_67 ?_
      refine EV.if_ne 71 75 rfl (by decide) dX9_isPartOf_68 (fun c12 => ?_) (fun c12 => ?_)
      · have h := h.1 c12
        refine EV.iconst 76 rfl dX9_isPartOf_75 (v := 0) (by decide) ?_
        refine EV.istore_n 77 rfl 3 [some (.ref v0), some (.int v1), some (.int v2), some (.int 0), some (.int v4)] rfl (by decide) rfl dX9_isPartOf_76 ?_
        refine EV.iinc 80 rfl [some (.ref v0), some (.int v1), some (.int v2), some (.int 0), some (.int (v4 + 1))] (v := 1) (by decide) (by decide) rfl rfl dX9_isPartOf_77 ?_
        refine EV.goto 26 (by decide) dX9_isPartOf_80 ?_
        exact h
      · have h := h.2 c12
        refine EV.iconst 72 rfl dX9_isPartOf_71 (v := 1) (by decide) ?_
        refine EV.goto 76 (by decide) dX9_isPartOf_72 ?_
        refine EV.istore_n 77 rfl 3 [some (.ref v0), some (.int v1), some (.int v2), some (.int 1), some (.int v4)] rfl (by decide) rfl dX9_isPartOf_76 ?_
        refine EV.iinc 80 rfl [some (.ref v0), some (.int v1), some (.int v2), some (.int 1), some (.int (v4 + 1))] (v := 1) (by decide) (by decide) rfl rfl dX9_isPartOf_77 ?_
        refine EV.goto 26 (by decide) dX9_isPartOf_80 ?_
        exact h
theorem gX9_setAt_0 {Γ : Gm} {d : Nat} {σ : AH} {Q : Oc → AH → Prop} {v0 : Nat} {v1 : Int32} {v2 : Int32} (h : hs σ v0 = some (7, 27) ∧ CI Γ d MX9_look_ [.ref v0, .int v1] σ (fun r2 σ1 => hs σ1 v0 = some (7, 27) ∧ ∀ σ5 : AH, σ5 = setI σ1 v0 0 r2 → (((gi σ5 v0 0) = 0 → EV Γ MX9_setAt d 23 [some (.ref v0), some (.int v1), some (.int v2), some (.int 0), some (.int 0)] [] σ5 Q) ∧ (¬ (gi σ5 v0 0) = 0 → Q (.inl (some (.int 0))) σ5))) (fun E σ1 => Q (.inr E) σ1)) : EV Γ MX9_setAt d 0 [some (.ref v0), some (.int v1), some (.int v2), none, none] [] σ Q := by
  refine EV.aload_n 1 rfl 0 rfl rfl dX9_setAt_0 ?_
  refine EV.aload_n 2 rfl 0 rfl rfl dX9_setAt_1 ?_
  refine EV.iload_n 3 rfl 1 rfl rfl dX9_setAt_2 ?_
  obtain ⟨w3, h⟩ := h
  refine EV.cV rfl rfl lk_X9_220 rfl (vs := [.int v1]) (st := [.ref v0]) rfl rfl (Nat.le_of_ble_eq_true rfl) dX9_setAt_3 w3 h (fun v σ1 h => ?_)
  obtain ⟨r2, rfl, h⟩ := h
  show EV Γ MX9_setAt d 6 [some (.ref v0), some (.int v1), some (.int v2), none, none] [.int r2, .ref v0] σ1 Q
  obtain ⟨w4, h⟩ := h
  refine EV.putI 9 rfl fw_X9_62 rfl (by decide) dX9_setAt_6 w4 (EV.nm (fun σ5 e6 => ?_))
  have h := h σ5 e6
  have w7 := tr_hs (hs_setI_of e6) w4
  refine EV.aload_n 10 rfl 0 rfl rfl dX9_setAt_9 ?_
  refine EV.getI 13 rfl fl_X9_62 rfl dX9_setAt_10 w7 ?_
  refine EV.if_eq 16 18 rfl (by decide) dX9_setAt_13 (fun c8 => ?_) (fun c8 => ?_)
  · have h := h.1 c8
    refine EV.iconst 19 rfl dX9_setAt_18 (v := 0) (by decide) ?_
    refine EV.istore_n 20 rfl 3 [some (.ref v0), some (.int v1), some (.int v2), some (.int 0), none] rfl (by decide) rfl dX9_setAt_19 ?_
    refine EV.iconst 21 rfl dX9_setAt_20 (v := 0) (by decide) ?_
    refine EV.istore 23 rfl [some (.ref v0), some (.int v1), some (.int v2), some (.int 0), some (.int 0)] (by decide) rfl dX9_setAt_21 ?_
    exact h
  · have h := h.2 c8
    refine EV.iconst 17 rfl dX9_setAt_16 (v := 0) (by decide) ?_
    exact EV.iret rfl dX9_setAt_17 h
theorem eX9_setAt {Γ : Gm} {d : Nat} {σ : AH} {Q : Oc → AH → Prop} {v0 : Nat} {v1 : Int32} {v2 : Int32} (h : hs σ v0 = some (7, 27) ∧ CI Γ d MX9_look_ [.ref v0, .int v1] σ (fun r2 σ1 => hs σ1 v0 = some (7, 27) ∧ ∀ σ5 : AH, σ5 = setI σ1 v0 0 r2 → (((gi σ5 v0 0) = 0 → EV Γ MX9_setAt d 23 [some (.ref v0), some (.int v1), some (.int v2), some (.int 0), some (.int 0)] [] σ5 Q) ∧ (¬ (gi σ5 v0 0) = 0 → Q (.inl (some (.int 0))) σ5))) (fun E σ1 => Q (.inr E) σ1)) : RUN Γ d MX9_setAt [.ref v0, .int v1, .int v2] σ Q :=
  EV.enter [some (.ref v0), some (.int v1), some (.int v2), none, none] rfl (by decide +kernel) (Nat.le_of_ble_eq_true rfl) rfl (gX9_setAt_0 h)
theorem gX9_setAt_23 {Γ : Gm} {d : Nat} {σ : AH} {Q : Oc → AH → Prop} {v0 : Nat} {v1 : Int32} {v2 : Int32} {v3 : Int32} {v4 : Int32} (h : ((4096 ≤ v4 → hs σ v0 = some (7, 27) ∧ CI Γ d MX9_fail [.ref v0, .int 2] σ (fun r3 σ2 => Q (.inl (some (.int r3))) σ2) (fun E σ2 => Q (.inr E) σ2)) ∧ (¬ 4096 ≤ v4 → hs σ v0 = some (7, 27) ∧ ∃ t6 : Nat, gr σ v0 9 = some t6 ∧ CI Γ d MX9_has [.ref t6, .int v1, .int v4] σ (fun r9 σ8 => ((r9 ≠ 0 → ((v3 ≠ v2 → EV Γ MX9_setAt d 23 [some (.ref v0), some (.int v1), some (.int v2), some (.int (v3 + 1)), some (.int (v4 + 1))] [] σ8 Q) ∧ (v3 = v2 → Q (.inl (some (.int v4))) σ8))) ∧ (r9 = 0 → EV Γ MX9_setAt d 23 [some (.ref v0), some (.int v1), some (.int v2), some (.int v3), some (.int (v4 + 1))] [] σ8 Q))) (fun _ _ => False)))) : EV Γ MX9_setAt d 23 [some (.ref v0), some (.int v1), some (.int v2), some (.int v3), some (.int v4)] [] σ Q := by
  refine EV.iload 25 rfl rfl dX9_setAt_23 ?_
  refine EV.sipush 28 rfl dX9_setAt_25 (v := 4096) (by decide) ?_
  refine EV.icmp_ge 31 64 rfl (by decide) dX9_setAt_28 (fun c1 => ?_) (fun c1 => ?_)
  · have h := h.1 c1
    refine EV.aload_n 65 rfl 0 rfl rfl dX9_setAt_64 ?_
    refine EV.iconst 66 rfl dX9_setAt_65 (v := 2) (by decide) ?_
    obtain ⟨w4, h⟩ := h
    refine EV.cV rfl rfl lk_X9_139 rfl (vs := [.int 2]) (st := []) rfl rfl (Nat.le_of_ble_eq_true rfl) dX9_setAt_66 w4 h (fun v σ2 h => ?_)
    obtain ⟨r3, rfl, h⟩ := h
    show EV Γ MX9_setAt d 69 [some (.ref v0), some (.int v1), some (.int v2), some (.int v3), some (.int v4)] [.int r3] σ2 Q
    exact EV.iret rfl dX9_setAt_69 h
  · have h := h.2 c1
    refine EV.aload_n 32 rfl 0 rfl rfl dX9_setAt_31 ?_
    obtain ⟨w5, h⟩ := h
    obtain ⟨t6, g7, h⟩ := h
    refine EV.getR 35 rfl fl_X9_24 rfl dX9_setAt_32 w5 g7 ?_
    refine EV.iload_n 36 rfl 1 rfl rfl dX9_setAt_35 ?_
    refine EV.iload 38 rfl rfl dX9_setAt_36 ?_
    refine EV.cS rfl lk_X9_65 rfl (vs := [.ref t6, .int v1, .int v4]) (st := []) rfl rfl (Nat.le_of_ble_eq_true rfl) dX9_setAt_38 h (fun v σ8 h => ?_)
    obtain ⟨r9, rfl, h⟩ := h
    show EV Γ MX9_setAt d 41 [some (.ref v0), some (.int v1), some (.int v2), some (.int v3), some (.int v4)] [.int r9] σ8 Q
    refine EV.if_ne 44 47 rfl (by decide) dX9_setAt_41 (fun c10 => ?_) (fun c10 => ?_)
    · have h := h.1 c10
      refine EV.iload_n 48 rfl 3 rfl rfl dX9_setAt_47 ?_
      refine EV.iload_n 49 rfl 2 rfl rfl dX9_setAt_48 ?_
      refine EV.icmp_ne 52 55 rfl (by decide) dX9_setAt_49 (fun c11 => ?_) (fun c11 => ?_)
      · have h := h.1 c11
        refine EV.iinc 58 rfl [some (.ref v0), some (.int v1), some (.int v2), some (.int (v3 + 1)), some (.int v4)] (v := 1) (by decide) (by decide) rfl rfl dX9_setAt_55 ?_
        refine EV.iinc 61 rfl [some (.ref v0), some (.int v1), some (.int v2), some (.int (v3 + 1)), some (.int (v4 + 1))] (v := 1) (by decide) (by decide) rfl rfl dX9_setAt_58 ?_
        refine EV.goto 23 (by decide) dX9_setAt_61 ?_
        exact h
      · have h := h.2 c11
        refine EV.iload 54 rfl rfl dX9_setAt_52 ?_
        exact EV.iret rfl dX9_setAt_54 h
    · have h := h.2 c10
      refine EV.goto 58 (by decide) dX9_setAt_44 ?_
      refine EV.iinc 61 rfl [some (.ref v0), some (.int v1), some (.int v2), some (.int v3), some (.int (v4 + 1))] (v := 1) (by decide) (by decide) rfl rfl dX9_setAt_58 ?_
      refine EV.goto 23 (by decide) dX9_setAt_61 ?_
      exact h
theorem gX9_indexOf_0 {Γ : Gm} {d : Nat} {σ : AH} {Q : Oc → AH → Prop} {v0 : Nat} {v1 : Int32} {v2 : Int32} (h : hs σ v0 = some (7, 27) ∧ CI Γ d MX9_look_ [.ref v0, .int v1] σ (fun r2 σ1 => hs σ1 v0 = some (7, 27) ∧ ∀ σ5 : AH, σ5 = setI σ1 v0 0 r2 → (((gi σ5 v0 0) ≠ 0 → EV Γ MX9_indexOf d 23 [some (.ref v0), none, none, none, none] [] σ5 Q) ∧ ((gi σ5 v0 0) = 0 → CI Γ d MX9_isMask [.int v2] σ5 (fun r10 σ9 => ((r10 ≠ 0 → hs σ9 v0 = some (7, 27) ∧ ∃ t13 : Nat, gr σ9 v0 9 = some t13 ∧ CI Γ d MX9_has [.ref t13, .int v1, .int v2] σ9 (fun r16 σ15 => ((r16 ≠ 0 → EV Γ MX9_indexOf d 55 [some (.ref v0), some (.int v1), some (.int v2), some (.int 0), some (.int 0)] [] σ15 Q) ∧ (r16 = 0 → Q (.inl (some (.int (-1)))) σ15))) (fun _ _ => False)) ∧ (r10 = 0 → EV Γ MX9_indexOf d 23 [some (.ref v0), none, none, none, none] [] σ9 Q))) (fun _ _ => False)))) (fun E σ1 => Q (.inr E) σ1)) : EV Γ MX9_indexOf d 0 [some (.ref v0), some (.int v1), some (.int v2), none, none] [] σ Q := by
  refine EV.aload_n 1 rfl 0 rfl rfl dX9_indexOf_0 ?_
  refine EV.aload_n 2 rfl 0 rfl rfl dX9_indexOf_1 ?_
  refine EV.iload_n 3 rfl 1 rfl rfl dX9_indexOf_2 ?_
  obtain ⟨w3, h⟩ := h
  refine EV.cV rfl rfl lk_X9_220 rfl (vs := [.int v1]) (st := [.ref v0]) rfl rfl (Nat.le_of_ble_eq_true rfl) dX9_indexOf_3 w3 h (fun v σ1 h => ?_)
  obtain ⟨r2, rfl, h⟩ := h
  show EV Γ MX9_indexOf d 6 [some (.ref v0), some (.int v1), some (.int v2), none, none] [.int r2, .ref v0] σ1 Q
  obtain ⟨w4, h⟩ := h
  refine EV.putI 9 rfl fw_X9_62 rfl (by decide) dX9_indexOf_6 w4 (EV.nm (fun σ5 e6 => ?_))
  have h := h σ5 e6
  have w7 := tr_hs (hs_setI_of e6) w4
  refine EV.aload_n 10 rfl 0 rfl rfl dX9_indexOf_9 ?_
  refine EV.getI 13 rfl fl_X9_62 rfl dX9_indexOf_10 w7 ?_
  refine EV.if_ne 16 23 rfl (by decide) dX9_indexOf_13 (fun c8 => ?_) (fun c8 => ?_)
  · have h := h.1 c8
    refine EV.mask [true, false, false, false, false] (L' := [some (.ref v0), none, none, none, none]) rfl ?_
    exact h
  · have h := h.2 c8
    refine EV.iload_n 17 rfl 2 rfl rfl dX9_indexOf_16 ?_
    refine EV.cS rfl lk_X9_237 rfl (vs := [.int v2]) (st := []) rfl rfl (Nat.le_of_ble_eq_true rfl) dX9_indexOf_17 h (fun v σ9 h => ?_)
    obtain ⟨r10, rfl, h⟩ := h
    show EV Γ MX9_indexOf d 20 [some (.ref v0), some (.int v1), some (.int v2), none, none] [.int r10] σ9 Q
    refine EV.if_ne 23 36 rfl (by decide) dX9_indexOf_20 (fun c11 => ?_) (fun c11 => ?_)
    · have h := h.1 c11
      refine EV.aload_n 37 rfl 0 rfl rfl dX9_indexOf_36 ?_
      obtain ⟨w12, h⟩ := h
      obtain ⟨t13, g14, h⟩ := h
      refine EV.getR 40 rfl fl_X9_24 rfl dX9_indexOf_37 w12 g14 ?_
      refine EV.iload_n 41 rfl 1 rfl rfl dX9_indexOf_40 ?_
      refine EV.iload_n 42 rfl 2 rfl rfl dX9_indexOf_41 ?_
      refine EV.cS rfl lk_X9_65 rfl (vs := [.ref t13, .int v1, .int v2]) (st := []) rfl rfl (Nat.le_of_ble_eq_true rfl) dX9_indexOf_42 h (fun v σ15 h => ?_)
      obtain ⟨r16, rfl, h⟩ := h
      show EV Γ MX9_indexOf d 45 [some (.ref v0), some (.int v1), some (.int v2), none, none] [.int r16] σ15 Q
      refine EV.if_ne 48 50 rfl (by decide) dX9_indexOf_45 (fun c17 => ?_) (fun c17 => ?_)
      · have h := h.1 c17
        refine EV.iconst 51 rfl dX9_indexOf_50 (v := 0) (by decide) ?_
        refine EV.istore_n 52 rfl 3 [some (.ref v0), some (.int v1), some (.int v2), some (.int 0), none] rfl (by decide) rfl dX9_indexOf_51 ?_
        refine EV.iconst 53 rfl dX9_indexOf_52 (v := 0) (by decide) ?_
        refine EV.istore 55 rfl [some (.ref v0), some (.int v1), some (.int v2), some (.int 0), some (.int 0)] (by decide) rfl dX9_indexOf_53 ?_
        exact h
      · have h := h.2 c17
        refine EV.iconst 49 rfl dX9_indexOf_48 (v := (-1)) (by decide) ?_
        exact EV.iret rfl dX9_indexOf_49 h
    · have h := h.2 c11
      refine EV.mask [true, false, false, false, false] (L' := [some (.ref v0), none, none, none, none]) rfl ?_
      exact h
theorem eX9_indexOf {Γ : Gm} {d : Nat} {σ : AH} {Q : Oc → AH → Prop} {v0 : Nat} {v1 : Int32} {v2 : Int32} (h : hs σ v0 = some (7, 27) ∧ CI Γ d MX9_look_ [.ref v0, .int v1] σ (fun r2 σ1 => hs σ1 v0 = some (7, 27) ∧ ∀ σ5 : AH, σ5 = setI σ1 v0 0 r2 → (((gi σ5 v0 0) ≠ 0 → EV Γ MX9_indexOf d 23 [some (.ref v0), none, none, none, none] [] σ5 Q) ∧ ((gi σ5 v0 0) = 0 → CI Γ d MX9_isMask [.int v2] σ5 (fun r10 σ9 => ((r10 ≠ 0 → hs σ9 v0 = some (7, 27) ∧ ∃ t13 : Nat, gr σ9 v0 9 = some t13 ∧ CI Γ d MX9_has [.ref t13, .int v1, .int v2] σ9 (fun r16 σ15 => ((r16 ≠ 0 → EV Γ MX9_indexOf d 55 [some (.ref v0), some (.int v1), some (.int v2), some (.int 0), some (.int 0)] [] σ15 Q) ∧ (r16 = 0 → Q (.inl (some (.int (-1)))) σ15))) (fun _ _ => False)) ∧ (r10 = 0 → EV Γ MX9_indexOf d 23 [some (.ref v0), none, none, none, none] [] σ9 Q))) (fun _ _ => False)))) (fun E σ1 => Q (.inr E) σ1)) : RUN Γ d MX9_indexOf [.ref v0, .int v1, .int v2] σ Q :=
  EV.enter [some (.ref v0), some (.int v1), some (.int v2), none, none] rfl (by decide +kernel) (Nat.le_of_ble_eq_true rfl) rfl (gX9_indexOf_0 h)
theorem gX9_indexOf_23 {Γ : Gm} {d : Nat} {σ : AH} {Q : Oc → AH → Prop} {v0 : Nat} (h : hs σ v0 = some (7, 27) ∧ (((gi σ v0 0) ≠ 0 → Q (.inl (some (.int 0))) σ) ∧ ((gi σ v0 0) = 0 → Q (.inl (some (.int (-1)))) σ))) : EV Γ MX9_indexOf d 23 [some (.ref v0), none, none, none, none] [] σ Q := by
  refine EV.aload_n 24 rfl 0 rfl rfl dX9_indexOf_23 ?_
  obtain ⟨w1, h⟩ := h
  refine EV.getI 27 rfl fl_X9_62 rfl dX9_indexOf_24 w1 ?_
  refine EV.if_ne 30 34 rfl (by decide) dX9_indexOf_27 (fun c2 => ?_) (fun c2 => ?_)
  · have h := h.1 c2
    refine EV.iconst 35 rfl dX9_indexOf_34 (v := 0) (by decide) ?_
    exact EV.iret rfl dX9_indexOf_35 h
  · have h := h.2 c2
    refine EV.iconst 31 rfl dX9_indexOf_30 (v := (-1)) (by decide) ?_
    refine EV.goto 35 (by decide) dX9_indexOf_31 ?_
    exact EV.iret rfl dX9_indexOf_35 h
theorem gX9_indexOf_55 {Γ : Gm} {d : Nat} {σ : AH} {Q : Oc → AH → Prop} {v0 : Nat} {v1 : Int32} {v2 : Int32} {v3 : Int32} {v4 : Int32} (h : ((v2 ≤ v4 → Q (.inl (some (.int v3))) σ) ∧ (¬ v2 ≤ v4 → hs σ v0 = some (7, 27) ∧ ∃ t3 : Nat, gr σ v0 9 = some t3 ∧ CI Γ d MX9_has [.ref t3, .int v1, .int v4] σ (fun r6 σ5 => ((r6 = 0 → EV Γ MX9_indexOf d 55 [some (.ref v0), some (.int v1), some (.int v2), some (.int (v3 + 0)), some (.int (v4 + 1))] [] σ5 Q) ∧ (¬ r6 = 0 → EV Γ MX9_indexOf d 55 [some (.ref v0), some (.int v1), some (.int v2), some (.int (v3 + 1)), some (.int (v4 + 1))] [] σ5 Q))) (fun _ _ => False)))) : EV Γ MX9_indexOf d 55 [some (.ref v0), some (.int v1), some (.int v2), some (.int v3), some (.int v4)] [] σ Q := by
  refine EV.iload 57 rfl rfl dX9_indexOf_55 ?_
  refine EV.iload_n 58 rfl 2 rfl rfl dX9_indexOf_57 ?_
  refine EV.icmp_ge 61 88 rfl (by decide) dX9_indexOf_58 (fun c1 => ?_) (fun c1 => ?_)
  · have h := h.1 c1
    refine EV.iload_n 89 rfl 3 rfl rfl dX9_indexOf_88 ?_
    exact EV.iret rfl dX9_indexOf_89 h
  · have h := h.2 c1
    refine EV.iload_n 62 rfl 3 rfl rfl dX9_indexOf_61 ?_
    refine EV.aload_n 63 rfl 0 rfl rfl dX9_indexOf_62 ?_
    obtain ⟨w2, h⟩ := h
    obtain ⟨t3, g4, h⟩ := h
    refine EV.getR 66 rfl fl_X9_24 rfl dX9_indexOf_63 w2 g4 ?_
    refine EV.iload_n 67 rfl 1 rfl rfl dX9_indexOf_66 ?_
    refine EV.iload 69 rfl rfl dX9_indexOf_67 ?_
    refine EV.cS rfl lk_X9_65 rfl (vs := [.ref t3, .int v1, .int v4]) (st := [.int v3]) rfl rfl (Nat.le_of_ble_eq_true rfl) dX9_indexOf_69 h (fun v σ5 h => ?_)
    obtain ⟨r6, rfl, h⟩ := h
    show EV Γ MX9_indexOf d 72 [some (.ref v0), some (.int v1), some (.int v2), some (.int v3), some (.int v4)] [.int r6, .int v3] σ5 Q
    refine EV.if_eq 75 79 rfl (by decide) dX9_indexOf_72 (fun c7 => ?_) (fun c7 => ?_)
    · have h := h.1 c7
      refine EV.iconst 80 rfl dX9_indexOf_79 (v := 0) (by decide) ?_
      refine EV.iadd 81 rfl dX9_indexOf_80 ?_
      refine EV.istore_n 82 rfl 3 [some (.ref v0), some (.int v1), some (.int v2), some (.int (v3 + 0)), some (.int v4)] rfl (by decide) rfl dX9_indexOf_81 ?_
      refine EV.iinc 85 rfl [some (.ref v0), some (.int v1), some (.int v2), some (.int (v3 + 0)), some (.int (v4 + 1))] (v := 1) (by decide) (by decide) rfl rfl dX9_indexOf_82 ?_
      refine EV.goto 55 (by decide) dX9_indexOf_85 ?_
      exact h
    · have h := h.2 c7
      refine EV.iconst 76 rfl dX9_indexOf_75 (v := 1) (by decide) ?_
      refine EV.goto 80 (by decide) dX9_indexOf_76 ?_
      refine EV.iadd 81 rfl dX9_indexOf_80 ?_
      refine EV.istore_n 82 rfl 3 [some (.ref v0), some (.int v1), some (.int v2), some (.int (v3 + 1)), some (.int v4)] rfl (by decide) rfl dX9_indexOf_81 ?_
      refine EV.iinc 85 rfl [some (.ref v0), some (.int v1), some (.int v2), some (.int (v3 + 1)), some (.int (v4 + 1))] (v := 1) (by decide) (by decide) rfl rfl dX9_indexOf_82 ?_
      refine EV.goto 55 (by decide) dX9_indexOf_85 ?_
      exact h
theorem gX9_setCost_0 {Γ : Gm} {d : Nat} {σ : AH} {Q : Oc → AH → Prop} {v0 : Nat} {v1 : Int32} {v2 : Int32} (h : hs σ v0 = some (7, 27) ∧ ∀ σ2 : AH, σ2 = setI σ v0 0 0 → CI Γ d MX9_isElement [.int v1] σ2 (fun r6 σ5 => ((r6 ≠ 0 → ((v2 < (-1000) → EV Γ MX9_setCost d 32 [some (.ref v0), none, none, none] [] σ5 Q) ∧ (¬ v2 < (-1000) → ((v2 ≤ 1000 → hs σ5 v0 = some (7, 27) ∧ ∃ t11 : Nat, gr σ5 v0 10 = some t11 ∧ ∃ n14 : Nat, hs σ5 t11 = some (22, n14) ∧ ∃ j15 : Nat, IX v1 n14 j15 ∧ ∀ σ17 : AH, σ17 = setI σ5 t11 j15 v2 → Q (.inl (some (.int (gi σ5 t11 j15)))) σ17) ∧ (¬ v2 ≤ 1000 → EV Γ MX9_setCost d 32 [some (.ref v0), none, none, none] [] σ5 Q))))) ∧ (r6 = 0 → hs σ5 v0 = some (7, 27) ∧ CI Γ d MX9_fail [.ref v0, .int 1] σ5 (fun r23 σ22 => Q (.inl (some (.int r23))) σ22) (fun E σ22 => Q (.inr E) σ22)))) (fun _ _ => False)) : EV Γ MX9_setCost d 0 [some (.ref v0), some (.int v1), some (.int v2), none] [] σ Q := by
  refine EV.aload_n 1 rfl 0 rfl rfl dX9_setCost_0 ?_
  refine EV.iconst 2 rfl dX9_setCost_1 (v := 0) (by decide) ?_
  obtain ⟨w1, h⟩ := h
  refine EV.putI 5 rfl fw_X9_62 rfl (by decide) dX9_setCost_2 w1 (EV.nm (fun σ2 e3 => ?_))
  have h := h σ2 e3
  have w4 := tr_hs (hs_setI_of e3) w1
  refine EV.iload_n 6 rfl 1 rfl rfl dX9_setCost_5 ?_
  refine EV.cS rfl lk_X9_254 rfl (vs := [.int v1]) (st := []) rfl rfl (Nat.le_of_ble_eq_true rfl) dX9_setCost_6 h (fun v σ5 h => ?_)
  obtain ⟨r6, rfl, h⟩ := h
  show EV Γ MX9_setCost d 9 [some (.ref v0), some (.int v1), some (.int v2), none] [.int r6] σ5 Q
  refine EV.if_ne 12 18 rfl (by decide) dX9_setCost_9 (fun c7 => ?_) (fun c7 => ?_)
  · have h := h.1 c7
    refine EV.iload_n 19 rfl 2 rfl rfl dX9_setCost_18 ?_
    refine EV.sipush 22 rfl dX9_setCost_19 (v := (-1000)) (by decide) ?_
    refine EV.icmp_lt 25 32 rfl (by decide) dX9_setCost_22 (fun c8 => ?_) (fun c8 => ?_)
    · have h := h.1 c8
      refine EV.mask [true, false, false, false] (L' := [some (.ref v0), none, none, none]) rfl ?_
      exact h
    · have h := h.2 c8
      refine EV.iload_n 26 rfl 2 rfl rfl dX9_setCost_25 ?_
      refine EV.sipush 29 rfl dX9_setCost_26 (v := 1000) (by decide) ?_
      refine EV.icmp_le 32 38 rfl (by decide) dX9_setCost_29 (fun c9 => ?_) (fun c9 => ?_)
      · have h := h.1 c9
        refine EV.aload_n 39 rfl 0 rfl rfl dX9_setCost_38 ?_
        obtain ⟨w10, h⟩ := h
        obtain ⟨t11, g12, h⟩ := h
        refine EV.getR 42 rfl fl_X9_28 rfl dX9_setCost_39 w10 g12 ?_
        refine EV.iload_n 43 rfl 1 rfl rfl dX9_setCost_42 ?_
        obtain ⟨n14, w13, h⟩ := h
        obtain ⟨j15, x16, h⟩ := h
        refine EV.iald 44 rfl dX9_setCost_43 w13 x16 ?_
        refine EV.istore_n 45 rfl 3 [some (.ref v0), some (.int v1), some (.int v2), some (.int (gi σ5 t11 j15))] rfl (by decide) rfl dX9_setCost_44 ?_
        refine EV.aload_n 46 rfl 0 rfl rfl dX9_setCost_45 ?_
        refine EV.getR 49 rfl fl_X9_28 rfl dX9_setCost_46 w10 g12 ?_
        refine EV.iload_n 50 rfl 1 rfl rfl dX9_setCost_49 ?_
        refine EV.iload_n 51 rfl 2 rfl rfl dX9_setCost_50 ?_
        refine EV.iast 52 rfl dX9_setCost_51 w13 x16 (EV.nm (fun σ17 e18 => ?_))
        have h := h σ17 e18
        have w19 := tr_hs (hs_setI_of e18) w10
        have w20 := tr_hs (hs_setI_of e18) w13
        have g21 := tr_gr (gr_setI_of e18) g12
        refine EV.iload_n 53 rfl 3 rfl rfl dX9_setCost_52 ?_
        exact EV.iret rfl dX9_setCost_53 h
      · have h := h.2 c9
        refine EV.mask [true, false, false, false] (L' := [some (.ref v0), none, none, none]) rfl ?_
        exact h
  · have h := h.2 c7
    refine EV.aload_n 13 rfl 0 rfl rfl dX9_setCost_12 ?_
    refine EV.iconst 14 rfl dX9_setCost_13 (v := 1) (by decide) ?_
    obtain ⟨w24, h⟩ := h
    refine EV.cV rfl rfl lk_X9_139 rfl (vs := [.int 1]) (st := []) rfl rfl (Nat.le_of_ble_eq_true rfl) dX9_setCost_14 w24 h (fun v σ22 h => ?_)
    obtain ⟨r23, rfl, h⟩ := h
    show EV Γ MX9_setCost d 17 [some (.ref v0), some (.int v1), some (.int v2), none] [.int r23] σ22 Q
    exact EV.iret rfl dX9_setCost_17 h
theorem eX9_setCost {Γ : Gm} {d : Nat} {σ : AH} {Q : Oc → AH → Prop} {v0 : Nat} {v1 : Int32} {v2 : Int32} (h : hs σ v0 = some (7, 27) ∧ ∀ σ2 : AH, σ2 = setI σ v0 0 0 → CI Γ d MX9_isElement [.int v1] σ2 (fun r6 σ5 => ((r6 ≠ 0 → ((v2 < (-1000) → EV Γ MX9_setCost d 32 [some (.ref v0), none, none, none] [] σ5 Q) ∧ (¬ v2 < (-1000) → ((v2 ≤ 1000 → hs σ5 v0 = some (7, 27) ∧ ∃ t11 : Nat, gr σ5 v0 10 = some t11 ∧ ∃ n14 : Nat, hs σ5 t11 = some (22, n14) ∧ ∃ j15 : Nat, IX v1 n14 j15 ∧ ∀ σ17 : AH, σ17 = setI σ5 t11 j15 v2 → Q (.inl (some (.int (gi σ5 t11 j15)))) σ17) ∧ (¬ v2 ≤ 1000 → EV Γ MX9_setCost d 32 [some (.ref v0), none, none, none] [] σ5 Q))))) ∧ (r6 = 0 → hs σ5 v0 = some (7, 27) ∧ CI Γ d MX9_fail [.ref v0, .int 1] σ5 (fun r23 σ22 => Q (.inl (some (.int r23))) σ22) (fun E σ22 => Q (.inr E) σ22)))) (fun _ _ => False)) : RUN Γ d MX9_setCost [.ref v0, .int v1, .int v2] σ Q :=
  EV.enter [some (.ref v0), some (.int v1), some (.int v2), none] rfl (by decide +kernel) (Nat.le_of_ble_eq_true rfl) rfl (gX9_setCost_0 h)
theorem gX9_setCost_32 {Γ : Gm} {d : Nat} {σ : AH} {Q : Oc → AH → Prop} {v0 : Nat} (h : hs σ v0 = some (7, 27) ∧ CI Γ d MX9_fail [.ref v0, .int 2] σ (fun r2 σ1 => Q (.inl (some (.int r2))) σ1) (fun E σ1 => Q (.inr E) σ1)) : EV Γ MX9_setCost d 32 [some (.ref v0), none, none, none] [] σ Q := by
  refine EV.aload_n 33 rfl 0 rfl rfl dX9_setCost_32 ?_
  refine EV.iconst 34 rfl dX9_setCost_33 (v := 2) (by decide) ?_
  obtain ⟨w3, h⟩ := h
  refine EV.cV rfl rfl lk_X9_139 rfl (vs := [.int 2]) (st := []) rfl rfl (Nat.le_of_ble_eq_true rfl) dX9_setCost_34 w3 h (fun v σ1 h => ?_)
  obtain ⟨r2, rfl, h⟩ := h
  show EV Γ MX9_setCost d 37 [some (.ref v0), none, none, none] [.int r2] σ1 Q
  exact EV.iret rfl dX9_setCost_37 h
theorem gX9_leastCost_0 {Γ : Gm} {d : Nat} {σ : AH} {Q : Oc → AH → Prop} {v0 : Nat} {v1 : Int32} (h : hs σ v0 = some (7, 27) ∧ CI Γ d MX9_look_ [.ref v0, .int v1] σ (fun r2 σ1 => hs σ1 v0 = some (7, 27) ∧ ∀ σ5 : AH, σ5 = setI σ1 v0 0 r2 → (((gi σ5 v0 0) = 0 → ∃ t9 : Nat, gr σ5 v0 9 = some t9 ∧ CI Γ d MX9_many [.ref t9, .int v1] σ5 (fun r12 σ11 => ((r12 ≠ 0 → EV Γ MX9_leastCost d 41 [some (.ref v0), some (.int v1), some (.int 12000), some (.int 0)] [] σ11 Q) ∧ (r12 = 0 → hs σ11 v0 = some (7, 27) ∧ CI Γ d MX9_fail [.ref v0, .int 2] σ11 (fun r15 σ14 => Q (.inl (some (.int r15))) σ14) (fun E σ14 => Q (.inr E) σ14)))) (fun _ _ => False)) ∧ (¬ (gi σ5 v0 0) = 0 → Q (.inl (some (.int 0))) σ5))) (fun E σ1 => Q (.inr E) σ1)) : EV Γ MX9_leastCost d 0 [some (.ref v0), some (.int v1), none, none] [] σ Q := by
  refine EV.aload_n 1 rfl 0 rfl rfl dX9_leastCost_0 ?_
  refine EV.aload_n 2 rfl 0 rfl rfl dX9_leastCost_1 ?_
  refine EV.iload_n 3 rfl 1 rfl rfl dX9_leastCost_2 ?_
  obtain ⟨w3, h⟩ := h
  refine EV.cV rfl rfl lk_X9_220 rfl (vs := [.int v1]) (st := [.ref v0]) rfl rfl (Nat.le_of_ble_eq_true rfl) dX9_leastCost_3 w3 h (fun v σ1 h => ?_)
  obtain ⟨r2, rfl, h⟩ := h
  show EV Γ MX9_leastCost d 6 [some (.ref v0), some (.int v1), none, none] [.int r2, .ref v0] σ1 Q
  obtain ⟨w4, h⟩ := h
  refine EV.putI 9 rfl fw_X9_62 rfl (by decide) dX9_leastCost_6 w4 (EV.nm (fun σ5 e6 => ?_))
  have h := h σ5 e6
  have w7 := tr_hs (hs_setI_of e6) w4
  refine EV.aload_n 10 rfl 0 rfl rfl dX9_leastCost_9 ?_
  refine EV.getI 13 rfl fl_X9_62 rfl dX9_leastCost_10 w7 ?_
  refine EV.if_eq 16 18 rfl (by decide) dX9_leastCost_13 (fun c8 => ?_) (fun c8 => ?_)
  · have h := h.1 c8
    refine EV.aload_n 19 rfl 0 rfl rfl dX9_leastCost_18 ?_
    obtain ⟨t9, g10, h⟩ := h
    refine EV.getR 22 rfl fl_X9_24 rfl dX9_leastCost_19 w7 g10 ?_
    refine EV.iload_n 23 rfl 1 rfl rfl dX9_leastCost_22 ?_
    refine EV.cS rfl lk_X9_213 rfl (vs := [.ref t9, .int v1]) (st := []) rfl rfl (Nat.le_of_ble_eq_true rfl) dX9_leastCost_23 h (fun v σ11 h => ?_)
    obtain ⟨r12, rfl, h⟩ := h
    show EV Γ MX9_leastCost d 26 [some (.ref v0), some (.int v1), none, none] [.int r12] σ11 Q
    refine EV.if_ne 29 35 rfl (by decide) dX9_leastCost_26 (fun c13 => ?_) (fun c13 => ?_)
    · have h := h.1 c13
      refine EV.sipush 38 rfl dX9_leastCost_35 (v := 12000) (by decide) ?_
      refine EV.istore_n 39 rfl 2 [some (.ref v0), some (.int v1), some (.int 12000), none] rfl (by decide) rfl dX9_leastCost_38 ?_
      refine EV.iconst 40 rfl dX9_leastCost_39 (v := 0) (by decide) ?_
      refine EV.istore_n 41 rfl 3 [some (.ref v0), some (.int v1), some (.int 12000), some (.int 0)] rfl (by decide) rfl dX9_leastCost_40 ?_
      exact h
    · have h := h.2 c13
      refine EV.aload_n 30 rfl 0 rfl rfl dX9_leastCost_29 ?_
      refine EV.iconst 31 rfl dX9_leastCost_30 (v := 2) (by decide) ?_
      obtain ⟨w16, h⟩ := h
      refine EV.cV rfl rfl lk_X9_139 rfl (vs := [.int 2]) (st := []) rfl rfl (Nat.le_of_ble_eq_true rfl) dX9_leastCost_31 w16 h (fun v σ14 h => ?_)
      obtain ⟨r15, rfl, h⟩ := h
      show EV Γ MX9_leastCost d 34 [some (.ref v0), some (.int v1), none, none] [.int r15] σ14 Q
      exact EV.iret rfl dX9_leastCost_34 h
  · have h := h.2 c8
    refine EV.iconst 17 rfl dX9_leastCost_16 (v := 0) (by decide) ?_
    exact EV.iret rfl dX9_leastCost_17 h
theorem eX9_leastCost {Γ : Gm} {d : Nat} {σ : AH} {Q : Oc → AH → Prop} {v0 : Nat} {v1 : Int32} (h : hs σ v0 = some (7, 27) ∧ CI Γ d MX9_look_ [.ref v0, .int v1] σ (fun r2 σ1 => hs σ1 v0 = some (7, 27) ∧ ∀ σ5 : AH, σ5 = setI σ1 v0 0 r2 → (((gi σ5 v0 0) = 0 → ∃ t9 : Nat, gr σ5 v0 9 = some t9 ∧ CI Γ d MX9_many [.ref t9, .int v1] σ5 (fun r12 σ11 => ((r12 ≠ 0 → EV Γ MX9_leastCost d 41 [some (.ref v0), some (.int v1), some (.int 12000), some (.int 0)] [] σ11 Q) ∧ (r12 = 0 → hs σ11 v0 = some (7, 27) ∧ CI Γ d MX9_fail [.ref v0, .int 2] σ11 (fun r15 σ14 => Q (.inl (some (.int r15))) σ14) (fun E σ14 => Q (.inr E) σ14)))) (fun _ _ => False)) ∧ (¬ (gi σ5 v0 0) = 0 → Q (.inl (some (.int 0))) σ5))) (fun E σ1 => Q (.inr E) σ1)) : RUN Γ d MX9_leastCost [.ref v0, .int v1] σ Q :=
  EV.enter [some (.ref v0), some (.int v1), none, none] rfl (by decide +kernel) (Nat.le_of_ble_eq_true rfl) rfl (gX9_leastCost_0 h)
theorem gX9_leastCost_41 {Γ : Gm} {d : Nat} {σ : AH} {Q : Oc → AH → Prop} {v0 : Nat} {v1 : Int32} {v2 : Int32} {v3 : Int32} (h : ((4096 ≤ v3 → Q (.inl (some (.int v2))) σ) ∧ (¬ 4096 ≤ v3 → hs σ v0 = some (7, 27) ∧ ∃ t3 : Nat, gr σ v0 9 = some t3 ∧ CI Γ d MX9_has [.ref t3, .int v1, .int v3] σ (fun r6 σ5 => ((r6 = 0 → EV Γ MX9_leastCost d 41 [some (.ref v0), some (.int v1), some (.int v2), some (.int (v3 + 1))] [] σ5 Q) ∧ (¬ r6 = 0 → hs σ5 v0 = some (7, 27) ∧ CI Γ d MX9_costOf [.ref v0, .int v3] σ5 (fun r9 σ8 => 1 ≤ d ∧ EV Γ MX9_leastCost d 41 [some (.ref v0), some (.int v1), some (.int (if r9 < v2 then r9 else v2)), some (.int (v3 + 1))] [] σ8 Q) (fun E σ8 => Q (.inr E) σ8)))) (fun _ _ => False)))) : EV Γ MX9_leastCost d 41 [some (.ref v0), some (.int v1), some (.int v2), some (.int v3)] [] σ Q := by
  refine EV.iload_n 42 rfl 3 rfl rfl dX9_leastCost_41 ?_
  refine EV.sipush 45 rfl dX9_leastCost_42 (v := 4096) (by decide) ?_
  refine EV.icmp_ge 48 76 rfl (by decide) dX9_leastCost_45 (fun c1 => ?_) (fun c1 => ?_)
  · have h := h.1 c1
    refine EV.iload_n 77 rfl 2 rfl rfl dX9_leastCost_76 ?_
    exact EV.iret rfl dX9_leastCost_77 h
  · have h := h.2 c1
    refine EV.aload_n 49 rfl 0 rfl rfl dX9_leastCost_48 ?_
    obtain ⟨w2, h⟩ := h
    obtain ⟨t3, g4, h⟩ := h
    refine EV.getR 52 rfl fl_X9_24 rfl dX9_leastCost_49 w2 g4 ?_
    refine EV.iload_n 53 rfl 1 rfl rfl dX9_leastCost_52 ?_
    refine EV.iload_n 54 rfl 3 rfl rfl dX9_leastCost_53 ?_
    refine EV.cS rfl lk_X9_65 rfl (vs := [.ref t3, .int v1, .int v3]) (st := []) rfl rfl (Nat.le_of_ble_eq_true rfl) dX9_leastCost_54 h (fun v σ5 h => ?_)
    obtain ⟨r6, rfl, h⟩ := h
    show EV Γ MX9_leastCost d 57 [some (.ref v0), some (.int v1), some (.int v2), some (.int v3)] [.int r6] σ5 Q
    refine EV.if_eq 60 70 rfl (by decide) dX9_leastCost_57 (fun c7 => ?_) (fun c7 => ?_)
    · have h := h.1 c7
      refine EV.iinc 73 rfl [some (.ref v0), some (.int v1), some (.int v2), some (.int (v3 + 1))] (v := 1) (by decide) (by decide) rfl rfl dX9_leastCost_70 ?_
      refine EV.goto 41 (by decide) dX9_leastCost_73 ?_
      exact h
    · have h := h.2 c7
      refine EV.iload_n 61 rfl 2 rfl rfl dX9_leastCost_60 ?_
      refine EV.aload_n 62 rfl 0 rfl rfl dX9_leastCost_61 ?_
      refine EV.iload_n 63 rfl 3 rfl rfl dX9_leastCost_62 ?_
      obtain ⟨w10, h⟩ := h
      refine EV.cV rfl rfl lk_X9_257 rfl (vs := [.int v3]) (st := [.int v2]) rfl rfl (Nat.le_of_ble_eq_true rfl) dX9_leastCost_63 w10 h (fun v σ8 h => ?_)
      obtain ⟨r9, rfl, h⟩ := h
      show EV Γ MX9_leastCost d 66 [some (.ref v0), some (.int v1), some (.int v2), some (.int v3)] [.int r9, .int v2] σ8 Q
      obtain ⟨z11, h⟩ := h
      refine EV.mmin 69 rfl mm_X9_260 z11 (Nat.le_of_ble_eq_true rfl) dX9_leastCost_66 ?_
      refine EV.istore_n 70 rfl 2 [some (.ref v0), some (.int v1), some (.int (if r9 < v2 then r9 else v2)), some (.int v3)] rfl (by decide) rfl dX9_leastCost_69 ?_
      refine EV.iinc 73 rfl [some (.ref v0), some (.int v1), some (.int (if r9 < v2 then r9 else v2)), some (.int (v3 + 1))] (v := 1) (by decide) (by decide) rfl rfl dX9_leastCost_70 ?_
      refine EV.goto 41 (by decide) dX9_leastCost_73 ?_
      exact h
theorem gX9_meanCost_0 {Γ : Gm} {d : Nat} {σ : AH} {Q : Oc → AH → Prop} {v0 : Nat} {v1 : Int32} (h : hs σ v0 = some (7, 27) ∧ CI Γ d MX9_look_ [.ref v0, .int v1] σ (fun r2 σ1 => hs σ1 v0 = some (7, 27) ∧ ∀ σ5 : AH, σ5 = setI σ1 v0 0 r2 → (((gi σ5 v0 0) = 0 → ∃ t9 : Nat, gr σ5 v0 9 = some t9 ∧ CI Γ d MX9_many [.ref t9, .int v1] σ5 (fun r12 σ11 => ((r12 ≠ 0 → EV Γ MX9_meanCost d 45 [some (.ref v0), some (.int v1), some (.long 0), none, some (.int r12), some (.int 0)] [] σ11 Q) ∧ (r12 = 0 → hs σ11 v0 = some (7, 27) ∧ CI Γ d MX9_fail [.ref v0, .int 2] σ11 (fun r15 σ14 => Q (.inl (some (.double (FP.i2d r15)))) σ14) (fun E σ14 => Q (.inr E) σ14)))) (fun _ _ => False)) ∧ (¬ (gi σ5 v0 0) = 0 → Q (.inl (some (.double FP.dconst0))) σ5))) (fun E σ1 => Q (.inr E) σ1)) : EV Γ MX9_meanCost d 0 [some (.ref v0), some (.int v1), none, none, none, none] [] σ Q := by
  refine EV.aload_n 1 rfl 0 rfl rfl dX9_meanCost_0 ?_
  refine EV.aload_n 2 rfl 0 rfl rfl dX9_meanCost_1 ?_
  refine EV.iload_n 3 rfl 1 rfl rfl dX9_meanCost_2 ?_
  obtain ⟨w3, h⟩ := h
  refine EV.cV rfl rfl lk_X9_220 rfl (vs := [.int v1]) (st := [.ref v0]) rfl rfl (Nat.le_of_ble_eq_true rfl) dX9_meanCost_3 w3 h (fun v σ1 h => ?_)
  obtain ⟨r2, rfl, h⟩ := h
  show EV Γ MX9_meanCost d 6 [some (.ref v0), some (.int v1), none, none, none, none] [.int r2, .ref v0] σ1 Q
  obtain ⟨w4, h⟩ := h
  refine EV.putI 9 rfl fw_X9_62 rfl (by decide) dX9_meanCost_6 w4 (EV.nm (fun σ5 e6 => ?_))
  have h := h σ5 e6
  have w7 := tr_hs (hs_setI_of e6) w4
  refine EV.aload_n 10 rfl 0 rfl rfl dX9_meanCost_9 ?_
  refine EV.getI 13 rfl fl_X9_62 rfl dX9_meanCost_10 w7 ?_
  refine EV.if_eq 16 18 rfl (by decide) dX9_meanCost_13 (fun c8 => ?_) (fun c8 => ?_)
  · have h := h.1 c8
    refine EV.lconst 19 rfl dX9_meanCost_18 (v := 0) (by decide) ?_
    refine EV.lstore_n 20 rfl 2 [some (.ref v0), some (.int v1), some (.long 0), none, none, none] rfl (by decide) rfl dX9_meanCost_19 ?_
    refine EV.aload_n 21 rfl 0 rfl rfl dX9_meanCost_20 ?_
    obtain ⟨t9, g10, h⟩ := h
    refine EV.getR 24 rfl fl_X9_24 rfl dX9_meanCost_21 w7 g10 ?_
    refine EV.iload_n 25 rfl 1 rfl rfl dX9_meanCost_24 ?_
    refine EV.cS rfl lk_X9_213 rfl (vs := [.ref t9, .int v1]) (st := []) rfl rfl (Nat.le_of_ble_eq_true rfl) dX9_meanCost_25 h (fun v σ11 h => ?_)
    obtain ⟨r12, rfl, h⟩ := h
    show EV Γ MX9_meanCost d 28 [some (.ref v0), some (.int v1), some (.long 0), none, none, none] [.int r12] σ11 Q
    refine EV.istore 30 rfl [some (.ref v0), some (.int v1), some (.long 0), none, some (.int r12), none] (by decide) rfl dX9_meanCost_28 ?_
    refine EV.iload 32 rfl rfl dX9_meanCost_30 ?_
    refine EV.if_ne 35 42 rfl (by decide) dX9_meanCost_32 (fun c13 => ?_) (fun c13 => ?_)
    · have h := h.1 c13
      refine EV.iconst 43 rfl dX9_meanCost_42 (v := 0) (by decide) ?_
      refine EV.istore 45 rfl [some (.ref v0), some (.int v1), some (.long 0), none, some (.int r12), some (.int 0)] (by decide) rfl dX9_meanCost_43 ?_
      exact h
    · have h := h.2 c13
      refine EV.aload_n 36 rfl 0 rfl rfl dX9_meanCost_35 ?_
      refine EV.iconst 37 rfl dX9_meanCost_36 (v := 2) (by decide) ?_
      obtain ⟨w16, h⟩ := h
      refine EV.cV rfl rfl lk_X9_139 rfl (vs := [.int 2]) (st := []) rfl rfl (Nat.le_of_ble_eq_true rfl) dX9_meanCost_37 w16 h (fun v σ14 h => ?_)
      obtain ⟨r15, rfl, h⟩ := h
      show EV Γ MX9_meanCost d 40 [some (.ref v0), some (.int v1), some (.long 0), none, some (.int r12), none] [.int r15] σ14 Q
      refine EV.i2d 41 rfl dX9_meanCost_40 ?_
      exact EV.dret rfl dX9_meanCost_41 h
  · have h := h.2 c8
    refine EV.dconst0 17 rfl dX9_meanCost_16 ?_
    exact EV.dret rfl dX9_meanCost_17 h
theorem eX9_meanCost {Γ : Gm} {d : Nat} {σ : AH} {Q : Oc → AH → Prop} {v0 : Nat} {v1 : Int32} (h : hs σ v0 = some (7, 27) ∧ CI Γ d MX9_look_ [.ref v0, .int v1] σ (fun r2 σ1 => hs σ1 v0 = some (7, 27) ∧ ∀ σ5 : AH, σ5 = setI σ1 v0 0 r2 → (((gi σ5 v0 0) = 0 → ∃ t9 : Nat, gr σ5 v0 9 = some t9 ∧ CI Γ d MX9_many [.ref t9, .int v1] σ5 (fun r12 σ11 => ((r12 ≠ 0 → EV Γ MX9_meanCost d 45 [some (.ref v0), some (.int v1), some (.long 0), none, some (.int r12), some (.int 0)] [] σ11 Q) ∧ (r12 = 0 → hs σ11 v0 = some (7, 27) ∧ CI Γ d MX9_fail [.ref v0, .int 2] σ11 (fun r15 σ14 => Q (.inl (some (.double (FP.i2d r15)))) σ14) (fun E σ14 => Q (.inr E) σ14)))) (fun _ _ => False)) ∧ (¬ (gi σ5 v0 0) = 0 → Q (.inl (some (.double FP.dconst0))) σ5))) (fun E σ1 => Q (.inr E) σ1)) : RUN Γ d MX9_meanCost [.ref v0, .int v1] σ Q :=
  EV.enter [some (.ref v0), some (.int v1), none, none, none, none] rfl (by decide +kernel) (Nat.le_of_ble_eq_true rfl) rfl (gX9_meanCost_0 h)
theorem gX9_meanCost_45 {Γ : Gm} {d : Nat} {σ : AH} {Q : Oc → AH → Prop} {v0 : Nat} {v1 : Int32} {v2 : Int64} {v4 : Int32} {v5 : Int32} (h : ((4096 ≤ v5 → vf_n64 (FP.ddiv (FP.l2d v2) (FP.i2d v4)) ∧ Q (.inl (some (.double (FP.ddiv (FP.l2d v2) (FP.i2d v4))))) σ) ∧ (¬ 4096 ≤ v5 → hs σ v0 = some (7, 27) ∧ ∃ t4 : Nat, gr σ v0 9 = some t4 ∧ CI Γ d MX9_has [.ref t4, .int v1, .int v5] σ (fun r7 σ6 => ((r7 = 0 → EV Γ MX9_meanCost d 45 [some (.ref v0), some (.int v1), some (.long (v2 + 0)), none, some (.int v4), some (.int (v5 + 1))] [] σ6 Q) ∧ (¬ r7 = 0 → hs σ6 v0 = some (7, 27) ∧ CI Γ d MX9_costOf [.ref v0, .int v5] σ6 (fun r10 σ9 => EV Γ MX9_meanCost d 45 [some (.ref v0), some (.int v1), some (.long (v2 + (Int32.toInt64 r10))), none, some (.int v4), some (.int (v5 + 1))] [] σ9 Q) (fun E σ9 => Q (.inr E) σ9)))) (fun _ _ => False)))) : EV Γ MX9_meanCost d 45 [some (.ref v0), some (.int v1), some (.long v2), none, some (.int v4), some (.int v5)] [] σ Q := by
  refine EV.iload 47 rfl rfl dX9_meanCost_45 ?_
  refine EV.sipush 50 rfl dX9_meanCost_47 (v := 4096) (by decide) ?_
  refine EV.icmp_ge 53 86 rfl (by decide) dX9_meanCost_50 (fun c1 => ?_) (fun c1 => ?_)
  · have h := h.1 c1
    refine EV.lload_n 87 rfl 2 rfl rfl dX9_meanCost_86 ?_
    refine EV.l2d 88 rfl dX9_meanCost_87 ?_
    refine EV.iload 90 rfl rfl dX9_meanCost_88 ?_
    refine EV.i2d 91 rfl dX9_meanCost_90 ?_
    obtain ⟨z2, h⟩ := h
    refine EV.ddiv 92 rfl dX9_meanCost_91 z2 ?_
    exact EV.dret rfl dX9_meanCost_92 h
  · have h := h.2 c1
    refine EV.lload_n 54 rfl 2 rfl rfl dX9_meanCost_53 ?_
    refine EV.aload_n 55 rfl 0 rfl rfl dX9_meanCost_54 ?_
    obtain ⟨w3, h⟩ := h
    obtain ⟨t4, g5, h⟩ := h
    refine EV.getR 58 rfl fl_X9_24 rfl dX9_meanCost_55 w3 g5 ?_
    refine EV.iload_n 59 rfl 1 rfl rfl dX9_meanCost_58 ?_
    refine EV.iload 61 rfl rfl dX9_meanCost_59 ?_
    refine EV.cS rfl lk_X9_65 rfl (vs := [.ref t4, .int v1, .int v5]) (st := [.long v2]) rfl rfl (Nat.le_of_ble_eq_true rfl) dX9_meanCost_61 h (fun v σ6 h => ?_)
    obtain ⟨r7, rfl, h⟩ := h
    show EV Γ MX9_meanCost d 64 [some (.ref v0), some (.int v1), some (.long v2), none, some (.int v4), some (.int v5)] [.int r7, .long v2] σ6 Q
    refine EV.if_eq 67 77 rfl (by decide) dX9_meanCost_64 (fun c8 => ?_) (fun c8 => ?_)
    · have h := h.1 c8
      refine EV.lconst 78 rfl dX9_meanCost_77 (v := 0) (by decide) ?_
      refine EV.ladd 79 rfl dX9_meanCost_78 ?_
      refine EV.lstore_n 80 rfl 2 [some (.ref v0), some (.int v1), some (.long (v2 + 0)), none, some (.int v4), some (.int v5)] rfl (by decide) rfl dX9_meanCost_79 ?_
      refine EV.iinc 83 rfl [some (.ref v0), some (.int v1), some (.long (v2 + 0)), none, some (.int v4), some (.int (v5 + 1))] (v := 1) (by decide) (by decide) rfl rfl dX9_meanCost_80 ?_
      refine EV.goto 45 (by decide) dX9_meanCost_83 ?_
      exact h
    · have h := h.2 c8
      refine EV.aload_n 68 rfl 0 rfl rfl dX9_meanCost_67 ?_
      refine EV.iload 70 rfl rfl dX9_meanCost_68 ?_
      obtain ⟨w11, h⟩ := h
      refine EV.cV rfl rfl lk_X9_257 rfl (vs := [.int v5]) (st := [.long v2]) rfl rfl (Nat.le_of_ble_eq_true rfl) dX9_meanCost_70 w11 h (fun v σ9 h => ?_)
      obtain ⟨r10, rfl, h⟩ := h
      show EV Γ MX9_meanCost d 73 [some (.ref v0), some (.int v1), some (.long v2), none, some (.int v4), some (.int v5)] [.int r10, .long v2] σ9 Q
      refine EV.i2l 74 rfl dX9_meanCost_73 ?_
      refine EV.goto 78 (by decide) dX9_meanCost_74 ?_
      refine EV.ladd 79 rfl dX9_meanCost_78 ?_
      refine EV.lstore_n 80 rfl 2 [some (.ref v0), some (.int v1), some (.long (v2 + (Int32.toInt64 r10))), none, some (.int v4), some (.int v5)] rfl (by decide) rfl dX9_meanCost_79 ?_
      refine EV.iinc 83 rfl [some (.ref v0), some (.int v1), some (.long (v2 + (Int32.toInt64 r10))), none, some (.int v4), some (.int (v5 + 1))] (v := 1) (by decide) (by decide) rfl rfl dX9_meanCost_80 ?_
      refine EV.goto 45 (by decide) dX9_meanCost_83 ?_
      exact h
theorem gX9_enumerate_0 {Γ : Gm} {d : Nat} {σ : AH} {Q : Oc → AH → Prop} {v0 : Nat} {v1 : Int32} {v2 : Int32} {v3 : Int32} (h : hs σ v0 = some (7, 27) ∧ CI Γ d MX9_look_ [.ref v0, .int v1] σ (fun r2 σ1 => hs σ1 v0 = some (7, 27) ∧ ∀ σ5 : AH, σ5 = setI σ1 v0 0 r2 → (((gi σ5 v0 0) = 0 → ((v3 < 1 → EV Γ MX9_enumerate d 30 [some (.ref v0), none, none, none, none, none] [] σ5 Q) ∧ (¬ v3 < 1 → ((v3 ≤ 300 → ∀ σ11 : AH, σ11 = setI σ5 v0 12 0 → EV Γ MX9_enumerate d 44 [some (.ref v0), some (.int v1), some (.int v2), some (.int v3), some (.int 0), none] [] σ11 Q) ∧ (¬ v3 ≤ 300 → EV Γ MX9_enumerate d 30 [some (.ref v0), none, none, none, none, none] [] σ5 Q))))) ∧ (¬ (gi σ5 v0 0) = 0 → Q (.inl (some (.int 0))) σ5))) (fun E σ1 => Q (.inr E) σ1)) : EV Γ MX9_enumerate d 0 [some (.ref v0), some (.int v1), some (.int v2), some (.int v3), none, none] [] σ Q := by
  refine EV.aload_n 1 rfl 0 rfl rfl dX9_enumerate_0 ?_
  refine EV.aload_n 2 rfl 0 rfl rfl dX9_enumerate_1 ?_
  refine EV.iload_n 3 rfl 1 rfl rfl dX9_enumerate_2 ?_
  obtain ⟨w3, h⟩ := h
  refine EV.cV rfl rfl lk_X9_220 rfl (vs := [.int v1]) (st := [.ref v0]) rfl rfl (Nat.le_of_ble_eq_true rfl) dX9_enumerate_3 w3 h (fun v σ1 h => ?_)
  obtain ⟨r2, rfl, h⟩ := h
  show EV Γ MX9_enumerate d 6 [some (.ref v0), some (.int v1), some (.int v2), some (.int v3), none, none] [.int r2, .ref v0] σ1 Q
  obtain ⟨w4, h⟩ := h
  refine EV.putI 9 rfl fw_X9_62 rfl (by decide) dX9_enumerate_6 w4 (EV.nm (fun σ5 e6 => ?_))
  have h := h σ5 e6
  have w7 := tr_hs (hs_setI_of e6) w4
  refine EV.aload_n 10 rfl 0 rfl rfl dX9_enumerate_9 ?_
  refine EV.getI 13 rfl fl_X9_62 rfl dX9_enumerate_10 w7 ?_
  refine EV.if_eq 16 18 rfl (by decide) dX9_enumerate_13 (fun c8 => ?_) (fun c8 => ?_)
  · have h := h.1 c8
    refine EV.iload_n 19 rfl 3 rfl rfl dX9_enumerate_18 ?_
    refine EV.iconst 20 rfl dX9_enumerate_19 (v := 1) (by decide) ?_
    refine EV.icmp_lt 23 30 rfl (by decide) dX9_enumerate_20 (fun c9 => ?_) (fun c9 => ?_)
    · have h := h.1 c9
      refine EV.mask [true, false, false, false, false, false] (L' := [some (.ref v0), none, none, none, none, none]) rfl ?_
      exact h
    · have h := h.2 c9
      refine EV.iload_n 24 rfl 3 rfl rfl dX9_enumerate_23 ?_
      refine EV.sipush 27 rfl dX9_enumerate_24 (v := 300) (by decide) ?_
      refine EV.icmp_le 30 36 rfl (by decide) dX9_enumerate_27 (fun c10 => ?_) (fun c10 => ?_)
      · have h := h.1 c10
        refine EV.aload_n 37 rfl 0 rfl rfl dX9_enumerate_36 ?_
        refine EV.iconst 38 rfl dX9_enumerate_37 (v := 0) (by decide) ?_
        refine EV.putI 41 rfl fw_X9_263 rfl (by decide) dX9_enumerate_38 w7 (EV.nm (fun σ11 e12 => ?_))
        have h := h σ11 e12
        have w13 := tr_hs (hs_setI_of e12) w7
        refine EV.iconst 42 rfl dX9_enumerate_41 (v := 0) (by decide) ?_
        refine EV.istore 44 rfl [some (.ref v0), some (.int v1), some (.int v2), some (.int v3), some (.int 0), none] (by decide) rfl dX9_enumerate_42 ?_
        exact h
      · have h := h.2 c10
        refine EV.mask [true, false, false, false, false, false] (L' := [some (.ref v0), none, none, none, none, none]) rfl ?_
        exact h
  · have h := h.2 c8
    refine EV.iconst 17 rfl dX9_enumerate_16 (v := 0) (by decide) ?_
    exact EV.iret rfl dX9_enumerate_17 h
theorem eX9_enumerate {Γ : Gm} {d : Nat} {σ : AH} {Q : Oc → AH → Prop} {v0 : Nat} {v1 : Int32} {v2 : Int32} {v3 : Int32} (h : hs σ v0 = some (7, 27) ∧ CI Γ d MX9_look_ [.ref v0, .int v1] σ (fun r2 σ1 => hs σ1 v0 = some (7, 27) ∧ ∀ σ5 : AH, σ5 = setI σ1 v0 0 r2 → (((gi σ5 v0 0) = 0 → ((v3 < 1 → EV Γ MX9_enumerate d 30 [some (.ref v0), none, none, none, none, none] [] σ5 Q) ∧ (¬ v3 < 1 → ((v3 ≤ 300 → ∀ σ11 : AH, σ11 = setI σ5 v0 12 0 → EV Γ MX9_enumerate d 44 [some (.ref v0), some (.int v1), some (.int v2), some (.int v3), some (.int 0), none] [] σ11 Q) ∧ (¬ v3 ≤ 300 → EV Γ MX9_enumerate d 30 [some (.ref v0), none, none, none, none, none] [] σ5 Q))))) ∧ (¬ (gi σ5 v0 0) = 0 → Q (.inl (some (.int 0))) σ5))) (fun E σ1 => Q (.inr E) σ1)) : RUN Γ d MX9_enumerate [.ref v0, .int v1, .int v2, .int v3] σ Q :=
  EV.enter [some (.ref v0), some (.int v1), some (.int v2), some (.int v3), none, none] rfl (by decide +kernel) (Nat.le_of_ble_eq_true rfl) rfl (gX9_enumerate_0 h)
theorem gX9_enumerate_30 {Γ : Gm} {d : Nat} {σ : AH} {Q : Oc → AH → Prop} {v0 : Nat} (h : hs σ v0 = some (7, 27) ∧ CI Γ d MX9_fail [.ref v0, .int 3] σ (fun r2 σ1 => Q (.inl (some (.int r2))) σ1) (fun E σ1 => Q (.inr E) σ1)) : EV Γ MX9_enumerate d 30 [some (.ref v0), none, none, none, none, none] [] σ Q := by
  refine EV.aload_n 31 rfl 0 rfl rfl dX9_enumerate_30 ?_
  refine EV.iconst 32 rfl dX9_enumerate_31 (v := 3) (by decide) ?_
  obtain ⟨w3, h⟩ := h
  refine EV.cV rfl rfl lk_X9_139 rfl (vs := [.int 3]) (st := []) rfl rfl (Nat.le_of_ble_eq_true rfl) dX9_enumerate_32 w3 h (fun v σ1 h => ?_)
  obtain ⟨r2, rfl, h⟩ := h
  show EV Γ MX9_enumerate d 35 [some (.ref v0), none, none, none, none, none] [.int r2] σ1 Q
  exact EV.iret rfl dX9_enumerate_35 h
theorem gX9_enumerate_44 {Γ : Gm} {d : Nat} {σ : AH} {Q : Oc → AH → Prop} {v0 : Nat} {v1 : Int32} {v2 : Int32} {v3 : Int32} {v4 : Int32} (h : ((4096 ≤ v4 → hs σ v0 = some (7, 27) ∧ Q (.inl (some (.int (gi σ v0 12)))) σ) ∧ (¬ 4096 ≤ v4 → hs σ v0 = some (7, 27) ∧ ∃ t4 : Nat, gr σ v0 9 = some t4 ∧ CI Γ d MX9_has [.ref t4, .int v1, .int v4] σ (fun r7 σ6 => ((r7 = 0 → EV Γ MX9_enumerate d 44 [some (.ref v0), some (.int v1), some (.int v2), some (.int v3), some (.int (v4 + 1)), none] [] σ6 Q) ∧ (¬ r7 = 0 → hs σ6 v0 = some (7, 27) ∧ CI Γ d MX9_costOf [.ref v0, .int v4] σ6 (fun r10 σ9 => ((r10 ≤ v2 → hs σ9 v0 = some (7, 27) ∧ (((gi σ9 v0 12) ≠ v3 → EV Γ MX9_enumerate d 110 [some (.ref v0), some (.int v1), some (.int v2), some (.int v3), some (.int v4), none] [] σ9 Q) ∧ ((gi σ9 v0 12) = v3 → CI Γ d MX9_costOf [.ref v0, .int v4] σ9 (fun r16 σ15 => hs σ15 v0 = some (7, 27) ∧ ∃ t18 : Nat, gr σ15 v0 11 = some t18 ∧ ∃ n21 : Nat, hs σ15 t18 = some (22, n21) ∧ ∃ j22 : Nat, IX (v3 - 1) n21 j22 ∧ CI Γ d MX9_costOf [.ref v0, .int (gi σ15 t18 j22)] σ15 (fun r25 σ24 => ((r16 < r25 → EV Γ MX9_enumerate d 110 [some (.ref v0), some (.int v1), some (.int v2), some (.int v3), some (.int v4), none] [] σ24 Q) ∧ (¬ r16 < r25 → EV Γ MX9_enumerate d 44 [some (.ref v0), some (.int v1), some (.int v2), some (.int v3), some (.int (v4 + 1)), none] [] σ24 Q))) (fun E σ24 => Q (.inr E) σ24)) (fun E σ15 => Q (.inr E) σ15)))) ∧ (¬ r10 ≤ v2 → EV Γ MX9_enumerate d 44 [some (.ref v0), some (.int v1), some (.int v2), some (.int v3), some (.int (v4 + 1)), none] [] σ9 Q))) (fun E σ9 => Q (.inr E) σ9)))) (fun _ _ => False)))) : EV Γ MX9_enumerate d 44 [some (.ref v0), some (.int v1), some (.int v2), some (.int v3), some (.int v4), none] [] σ Q := by
  refine EV.iload 46 rfl rfl dX9_enumerate_44 ?_
  refine EV.sipush 49 rfl dX9_enumerate_46 (v := 4096) (by decide) ?_
  refine EV.icmp_ge 52 212 rfl (by decide) dX9_enumerate_49 (fun c1 => ?_) (fun c1 => ?_)
  · have h := h.1 c1
    refine EV.aload_n 213 rfl 0 rfl rfl dX9_enumerate_212 ?_
    obtain ⟨w2, h⟩ := h
    refine EV.getI 216 rfl fl_X9_263 rfl dX9_enumerate_213 w2 ?_
    exact EV.iret rfl dX9_enumerate_216 h
  · have h := h.2 c1
    refine EV.aload_n 53 rfl 0 rfl rfl dX9_enumerate_52 ?_
    obtain ⟨w3, h⟩ := h
    obtain ⟨t4, g5, h⟩ := h
    refine EV.getR 56 rfl fl_X9_24 rfl dX9_enumerate_53 w3 g5 ?_
    refine EV.iload_n 57 rfl 1 rfl rfl dX9_enumerate_56 ?_
    refine EV.iload 59 rfl rfl dX9_enumerate_57 ?_
    refine EV.cS rfl lk_X9_65 rfl (vs := [.ref t4, .int v1, .int v4]) (st := []) rfl rfl (Nat.le_of_ble_eq_true rfl) dX9_enumerate_59 h (fun v σ6 h => ?_)
    obtain ⟨r7, rfl, h⟩ := h
    show EV Γ MX9_enumerate d 62 [some (.ref v0), some (.int v1), some (.int v2), some (.int v3), some (.int v4), none] [.int r7] σ6 Q
    refine EV.if_eq 65 206 rfl (by decide) dX9_enumerate_62 (fun c8 => ?_) (fun c8 => ?_)
    · have h := h.1 c8
      refine EV.iinc 209 rfl [some (.ref v0), some (.int v1), some (.int v2), some (.int v3), some (.int (v4 + 1)), none] (v := 1) (by decide) (by decide) rfl rfl dX9_enumerate_206 ?_
      refine EV.goto 44 (by decide) dX9_enumerate_209 ?_
      exact h
    · have h := h.2 c8
      refine EV.aload_n 66 rfl 0 rfl rfl dX9_enumerate_65 ?_
      refine EV.iload 68 rfl rfl dX9_enumerate_66 ?_
      obtain ⟨w11, h⟩ := h
      refine EV.cV rfl rfl lk_X9_257 rfl (vs := [.int v4]) (st := []) rfl rfl (Nat.le_of_ble_eq_true rfl) dX9_enumerate_68 w11 h (fun v σ9 h => ?_)
      obtain ⟨r10, rfl, h⟩ := h
      show EV Γ MX9_enumerate d 71 [some (.ref v0), some (.int v1), some (.int v2), some (.int v3), some (.int v4), none] [.int r10] σ9 Q
      refine EV.iload_n 72 rfl 2 rfl rfl dX9_enumerate_71 ?_
      refine EV.icmp_le 75 78 rfl (by decide) dX9_enumerate_72 (fun c12 => ?_) (fun c12 => ?_)
      · have h := h.1 c12
        refine EV.aload_n 79 rfl 0 rfl rfl dX9_enumerate_78 ?_
        obtain ⟨w13, h⟩ := h
        refine EV.getI 82 rfl fl_X9_263 rfl dX9_enumerate_79 w13 ?_
        refine EV.iload_n 83 rfl 3 rfl rfl dX9_enumerate_82 ?_
        refine EV.icmp_ne 86 110 rfl (by decide) dX9_enumerate_83 (fun c14 => ?_) (fun c14 => ?_)
        · have h := h.1 c14
          exact h
        · have h := h.2 c14
          refine EV.aload_n 87 rfl 0 rfl rfl dX9_enumerate_86 ?_
          refine EV.iload 89 rfl rfl dX9_enumerate_87 ?_
          refine EV.cV rfl rfl lk_X9_257 rfl (vs := [.int v4]) (st := []) rfl rfl (Nat.le_of_ble_eq_true rfl) dX9_enumerate_89 w13 h (fun v σ15 h => ?_)
          obtain ⟨r16, rfl, h⟩ := h
          show EV Γ MX9_enumerate d 92 [some (.ref v0), some (.int v1), some (.int v2), some (.int v3), some (.int v4), none] [.int r16] σ15 Q
          refine EV.aload_n 93 rfl 0 rfl rfl dX9_enumerate_92 ?_
          refine EV.aload_n 94 rfl 0 rfl rfl dX9_enumerate_93 ?_
          obtain ⟨w17, h⟩ := h
          obtain ⟨t18, g19, h⟩ := h
          refine EV.getR 97 rfl fl_X9_32 rfl dX9_enumerate_94 w17 g19 ?_
          refine EV.iload_n 98 rfl 3 rfl rfl dX9_enumerate_97 ?_
          refine EV.iconst 99 rfl dX9_enumerate_98 (v := 1) (by decide) ?_
          refine EV.isub 100 rfl dX9_enumerate_99 ?_
          obtain ⟨n21, w20, h⟩ := h
          obtain ⟨j22, x23, h⟩ := h
          refine EV.iald 101 rfl dX9_enumerate_100 w20 x23 ?_
          refine EV.cV rfl rfl lk_X9_257 rfl (vs := [.int (gi σ15 t18 j22)]) (st := [.int r16]) rfl rfl (Nat.le_of_ble_eq_true rfl) dX9_enumerate_101 w17 h (fun v σ24 h => ?_)
          obtain ⟨r25, rfl, h⟩ := h
          show EV Γ MX9_enumerate d 104 [some (.ref v0), some (.int v1), some (.int v2), some (.int v3), some (.int v4), none] [.int r25, .int r16] σ24 Q
          refine EV.icmp_lt 107 110 rfl (by decide) dX9_enumerate_104 (fun c26 => ?_) (fun c26 => ?_)
          · have h := h.1 c26
            exact h
          · have h := h.2 c26
            refine EV.goto 206 (by decide) dX9_enumerate_107 ?_
            refine EV.iinc 209 rfl [some (.ref v0), some (.int v1), some (.int v2), some (.int v3), some (.int (v4 + 1)), none] (v := 1) (by decide) (by decide) rfl rfl dX9_enumerate_206 ?_
            refine EV.goto 44 (by decide) dX9_enumerate_209 ?_
            exact h
      · have h := h.2 c12
        refine EV.goto 206 (by decide) dX9_enumerate_75 ?_
        refine EV.iinc 209 rfl [some (.ref v0), some (.int v1), some (.int v2), some (.int v3), some (.int (v4 + 1)), none] (v := 1) (by decide) (by decide) rfl rfl dX9_enumerate_206 ?_
        refine EV.goto 44 (by decide) dX9_enumerate_209 ?_
        exact h
theorem gX9_enumerate_110 {Γ : Gm} {d : Nat} {σ : AH} {Q : Oc → AH → Prop} {v0 : Nat} {v1 : Int32} {v2 : Int32} {v3 : Int32} {v4 : Int32} (h : hs σ v0 = some (7, 27) ∧ (((gi σ v0 12) ≠ v3 → EV Γ MX9_enumerate d 130 [some (.ref v0), some (.int v1), some (.int v2), some (.int v3), some (.int v4), some (.int (gi σ v0 12))] [] σ Q) ∧ ((gi σ v0 12) = v3 → EV Γ MX9_enumerate d 130 [some (.ref v0), some (.int v1), some (.int v2), some (.int v3), some (.int v4), some (.int (v3 - 1))] [] σ Q))) : EV Γ MX9_enumerate d 110 [some (.ref v0), some (.int v1), some (.int v2), some (.int v3), some (.int v4), none] [] σ Q := by
  refine EV.aload_n 111 rfl 0 rfl rfl dX9_enumerate_110 ?_
  obtain ⟨w1, h⟩ := h
  refine EV.getI 114 rfl fl_X9_263 rfl dX9_enumerate_111 w1 ?_
  refine EV.iload_n 115 rfl 3 rfl rfl dX9_enumerate_114 ?_
  refine EV.icmp_ne 118 124 rfl (by decide) dX9_enumerate_115 (fun c2 => ?_) (fun c2 => ?_)
  · have h := h.1 c2
    refine EV.aload_n 125 rfl 0 rfl rfl dX9_enumerate_124 ?_
    refine EV.getI 128 rfl fl_X9_263 rfl dX9_enumerate_125 w1 ?_
    refine EV.istore 130 rfl [some (.ref v0), some (.int v1), some (.int v2), some (.int v3), some (.int v4), some (.int (gi σ v0 12))] (by decide) rfl dX9_enumerate_128 ?_
    exact h
  · have h := h.2 c2
    refine EV.iload_n 119 rfl 3 rfl rfl dX9_enumerate_118 ?_
    refine EV.iconst 120 rfl dX9_enumerate_119 (v := 1) (by decide) ?_
    refine EV.isub 121 rfl dX9_enumerate_120 ?_
    refine EV.goto 128 (by decide) dX9_enumerate_121 ?_
    refine EV.istore 130 rfl [some (.ref v0), some (.int v1), some (.int v2), some (.int v3), some (.int v4), some (.int (v3 - 1))] (by decide) rfl dX9_enumerate_128 ?_
    exact h
theorem gX9_enumerate_130 {Γ : Gm} {d : Nat} {σ : AH} {Q : Oc → AH → Prop} {v0 : Nat} {v1 : Int32} {v2 : Int32} {v3 : Int32} {v4 : Int32} {v5 : Int32} (h : ((v5 ≤ 0 → EV Γ MX9_enumerate d 179 [some (.ref v0), some (.int v1), some (.int v2), some (.int v3), some (.int v4), some (.int v5)] [] σ Q) ∧ (¬ v5 ≤ 0 → hs σ v0 = some (7, 27) ∧ ∃ t3 : Nat, gr σ v0 11 = some t3 ∧ ∃ n6 : Nat, hs σ t3 = some (22, n6) ∧ ∃ j7 : Nat, IX (v5 - 1) n6 j7 ∧ CI Γ d MX9_costOf [.ref v0, .int (gi σ t3 j7)] σ (fun r10 σ9 => hs σ9 v0 = some (7, 27) ∧ CI Γ d MX9_costOf [.ref v0, .int v4] σ9 (fun r12 σ11 => ((r10 ≤ r12 → EV Γ MX9_enumerate d 179 [some (.ref v0), some (.int v1), some (.int v2), some (.int v3), some (.int v4), some (.int v5)] [] σ11 Q) ∧ (¬ r10 ≤ r12 → hs σ11 v0 = some (7, 27) ∧ ∃ t16 : Nat, gr σ11 v0 11 = some t16 ∧ ∃ n19 : Nat, hs σ11 t16 = some (22, n19) ∧ ∃ j20 : Nat, IX (v5 - 1) n19 j20 ∧ ∃ j22 : Nat, IX v5 n19 j22 ∧ ∀ σ24 : AH, σ24 = setI σ11 t16 j22 (gi σ11 t16 j20) → EV Γ MX9_enumerate d 130 [some (.ref v0), some (.int v1), some (.int v2), some (.int v3), some (.int v4), some (.int (v5 + (-1)))] [] σ24 Q))) (fun E σ11 => Q (.inr E) σ11)) (fun E σ9 => Q (.inr E) σ9)))) : EV Γ MX9_enumerate d 130 [some (.ref v0), some (.int v1), some (.int v2), some (.int v3), some (.int v4), some (.int v5)] [] σ Q := by
  refine EV.iload 132 rfl rfl dX9_enumerate_130 ?_
  refine EV.if_le 135 179 rfl (by decide) dX9_enumerate_132 (fun c1 => ?_) (fun c1 => ?_)
  · have h := h.1 c1
    exact h
  · have h := h.2 c1
    refine EV.aload_n 136 rfl 0 rfl rfl dX9_enumerate_135 ?_
    refine EV.aload_n 137 rfl 0 rfl rfl dX9_enumerate_136 ?_
    obtain ⟨w2, h⟩ := h
    obtain ⟨t3, g4, h⟩ := h
    refine EV.getR 140 rfl fl_X9_32 rfl dX9_enumerate_137 w2 g4 ?_
    refine EV.iload 142 rfl rfl dX9_enumerate_140 ?_
    refine EV.iconst 143 rfl dX9_enumerate_142 (v := 1) (by decide) ?_
    refine EV.isub 144 rfl dX9_enumerate_143 ?_
    obtain ⟨n6, w5, h⟩ := h
    obtain ⟨j7, x8, h⟩ := h
    refine EV.iald 145 rfl dX9_enumerate_144 w5 x8 ?_
    refine EV.cV rfl rfl lk_X9_257 rfl (vs := [.int (gi σ t3 j7)]) (st := []) rfl rfl (Nat.le_of_ble_eq_true rfl) dX9_enumerate_145 w2 h (fun v σ9 h => ?_)
    obtain ⟨r10, rfl, h⟩ := h
    show EV Γ MX9_enumerate d 148 [some (.ref v0), some (.int v1), some (.int v2), some (.int v3), some (.int v4), some (.int v5)] [.int r10] σ9 Q
    refine EV.aload_n 149 rfl 0 rfl rfl dX9_enumerate_148 ?_
    refine EV.iload 151 rfl rfl dX9_enumerate_149 ?_
    obtain ⟨w13, h⟩ := h
    refine EV.cV rfl rfl lk_X9_257 rfl (vs := [.int v4]) (st := [.int r10]) rfl rfl (Nat.le_of_ble_eq_true rfl) dX9_enumerate_151 w13 h (fun v σ11 h => ?_)
    obtain ⟨r12, rfl, h⟩ := h
    show EV Γ MX9_enumerate d 154 [some (.ref v0), some (.int v1), some (.int v2), some (.int v3), some (.int v4), some (.int v5)] [.int r12, .int r10] σ11 Q
    refine EV.icmp_le 157 179 rfl (by decide) dX9_enumerate_154 (fun c14 => ?_) (fun c14 => ?_)
    · have h := h.1 c14
      exact h
    · have h := h.2 c14
      refine EV.aload_n 158 rfl 0 rfl rfl dX9_enumerate_157 ?_
      obtain ⟨w15, h⟩ := h
      obtain ⟨t16, g17, h⟩ := h
      refine EV.getR 161 rfl fl_X9_32 rfl dX9_enumerate_158 w15 g17 ?_
      refine EV.iload 163 rfl rfl dX9_enumerate_161 ?_
      refine EV.aload_n 164 rfl 0 rfl rfl dX9_enumerate_163 ?_
      refine EV.getR 167 rfl fl_X9_32 rfl dX9_enumerate_164 w15 g17 ?_
      refine EV.iload 169 rfl rfl dX9_enumerate_167 ?_
      refine EV.iconst 170 rfl dX9_enumerate_169 (v := 1) (by decide) ?_
      refine EV.isub 171 rfl dX9_enumerate_170 ?_
      obtain ⟨n19, w18, h⟩ := h
      obtain ⟨j20, x21, h⟩ := h
      refine EV.iald 172 rfl dX9_enumerate_171 w18 x21 ?_
      obtain ⟨j22, x23, h⟩ := h
      refine EV.iast 173 rfl dX9_enumerate_172 w18 x23 (EV.nm (fun σ24 e25 => ?_))
      have h := h σ24 e25
      have w26 := tr_hs (hs_setI_of e25) w15
      have w27 := tr_hs (hs_setI_of e25) w18
      have g28 := tr_gr (gr_setI_of e25) g17
      refine EV.iinc 176 rfl [some (.ref v0), some (.int v1), some (.int v2), some (.int v3), some (.int v4), some (.int (v5 + (-1)))] (v := (-1)) (by decide) (by decide) rfl rfl dX9_enumerate_173 ?_
      refine EV.goto 130 (by decide) dX9_enumerate_176 ?_
      exact h
theorem gX9_enumerate_179 {Γ : Gm} {d : Nat} {σ : AH} {Q : Oc → AH → Prop} {v0 : Nat} {v1 : Int32} {v2 : Int32} {v3 : Int32} {v4 : Int32} {v5 : Int32} (h : hs σ v0 = some (7, 27) ∧ ∃ t2 : Nat, gr σ v0 11 = some t2 ∧ ∃ n5 : Nat, hs σ t2 = some (22, n5) ∧ ∃ j6 : Nat, IX v5 n5 j6 ∧ ∀ σ8 : AH, σ8 = setI σ t2 j6 v4 → ((v3 ≤ (gi σ8 v0 12) → EV Γ MX9_enumerate d 44 [some (.ref v0), some (.int v1), some (.int v2), some (.int v3), some (.int (v4 + 1)), none] [] σ8 Q) ∧ (¬ v3 ≤ (gi σ8 v0 12) → ∀ σ14 : AH, σ14 = setI σ8 v0 12 ((gi σ8 v0 12) + 1) → EV Γ MX9_enumerate d 44 [some (.ref v0), some (.int v1), some (.int v2), some (.int v3), some (.int (v4 + 1)), none] [] σ14 Q))) : EV Γ MX9_enumerate d 179 [some (.ref v0), some (.int v1), some (.int v2), some (.int v3), some (.int v4), some (.int v5)] [] σ Q := by
  refine EV.aload_n 180 rfl 0 rfl rfl dX9_enumerate_179 ?_
  obtain ⟨w1, h⟩ := h
  obtain ⟨t2, g3, h⟩ := h
  refine EV.getR 183 rfl fl_X9_32 rfl dX9_enumerate_180 w1 g3 ?_
  refine EV.iload 185 rfl rfl dX9_enumerate_183 ?_
  refine EV.iload 187 rfl rfl dX9_enumerate_185 ?_
  obtain ⟨n5, w4, h⟩ := h
  obtain ⟨j6, x7, h⟩ := h
  refine EV.iast 188 rfl dX9_enumerate_187 w4 x7 (EV.nm (fun σ8 e9 => ?_))
  have h := h σ8 e9
  have w10 := tr_hs (hs_setI_of e9) w1
  have w11 := tr_hs (hs_setI_of e9) w4
  have g12 := tr_gr (gr_setI_of e9) g3
  refine EV.aload_n 189 rfl 0 rfl rfl dX9_enumerate_188 ?_
  refine EV.getI 192 rfl fl_X9_263 rfl dX9_enumerate_189 w10 ?_
  refine EV.iload_n 193 rfl 3 rfl rfl dX9_enumerate_192 ?_
  refine EV.icmp_ge 196 206 rfl (by decide) dX9_enumerate_193 (fun c13 => ?_) (fun c13 => ?_)
  · have h := h.1 c13
    refine EV.iinc 209 rfl [some (.ref v0), some (.int v1), some (.int v2), some (.int v3), some (.int (v4 + 1)), some (.int v5)] (v := 1) (by decide) (by decide) rfl rfl dX9_enumerate_206 ?_
    refine EV.goto 44 (by decide) dX9_enumerate_209 ?_
    refine EV.mask [true, true, true, true, true, false] (L' := [some (.ref v0), some (.int v1), some (.int v2), some (.int v3), some (.int (v4 + 1)), none]) rfl ?_
    exact h
  · have h := h.2 c13
    refine EV.aload_n 197 rfl 0 rfl rfl dX9_enumerate_196 ?_
    refine EV.dup 198 rfl dX9_enumerate_197 rfl ?_
    refine EV.getI 201 rfl fl_X9_263 rfl dX9_enumerate_198 w10 ?_
    refine EV.iconst 202 rfl dX9_enumerate_201 (v := 1) (by decide) ?_
    refine EV.iadd 203 rfl dX9_enumerate_202 ?_
    refine EV.putI 206 rfl fw_X9_263 rfl (by decide) dX9_enumerate_203 w10 (EV.nm (fun σ14 e15 => ?_))
    have h := h σ14 e15
    have w16 := tr_hs (hs_setI_of e15) w10
    have w17 := tr_hs (hs_setI_of e15) w11
    have g18 := tr_gr (gr_setI_of e15) g12
    refine EV.iinc 209 rfl [some (.ref v0), some (.int v1), some (.int v2), some (.int v3), some (.int (v4 + 1)), some (.int v5)] (v := 1) (by decide) (by decide) rfl rfl dX9_enumerate_206 ?_
    refine EV.goto 44 (by decide) dX9_enumerate_209 ?_
    refine EV.mask [true, true, true, true, true, false] (L' := [some (.ref v0), some (.int v1), some (.int v2), some (.int v3), some (.int (v4 + 1)), none]) rfl ?_
    exact h
theorem gX9_enumerated_0 {Γ : Gm} {d : Nat} {σ : AH} {Q : Oc → AH → Prop} {v0 : Nat} {v1 : Int32} (h : hs σ v0 = some (7, 27) ∧ ∀ σ2 : AH, σ2 = setI σ v0 0 0 → ((v1 < 0 → EV Γ MX9_enumerated d 26 [some (.ref v0), none] [] σ2 Q) ∧ (¬ v1 < 0 → (((gi σ2 v0 12) ≤ v1 → EV Γ MX9_enumerated d 26 [some (.ref v0), none] [] σ2 Q) ∧ (¬ (gi σ2 v0 12) ≤ v1 → ∃ t7 : Nat, gr σ2 v0 11 = some t7 ∧ ∃ n10 : Nat, hs σ2 t7 = some (22, n10) ∧ ∃ j11 : Nat, IX v1 n10 j11 ∧ Q (.inl (some (.int (gi σ2 t7 j11)))) σ2))))) : EV Γ MX9_enumerated d 0 [some (.ref v0), some (.int v1)] [] σ Q := by
  refine EV.aload_n 1 rfl 0 rfl rfl dX9_enumerated_0 ?_
  refine EV.iconst 2 rfl dX9_enumerated_1 (v := 0) (by decide) ?_
  obtain ⟨w1, h⟩ := h
  refine EV.putI 5 rfl fw_X9_62 rfl (by decide) dX9_enumerated_2 w1 (EV.nm (fun σ2 e3 => ?_))
  have h := h σ2 e3
  have w4 := tr_hs (hs_setI_of e3) w1
  refine EV.iload_n 6 rfl 1 rfl rfl dX9_enumerated_5 ?_
  refine EV.if_lt 9 26 rfl (by decide) dX9_enumerated_6 (fun c5 => ?_) (fun c5 => ?_)
  · have h := h.1 c5
    refine EV.mask [true, false] (L' := [some (.ref v0), none]) rfl ?_
    exact h
  · have h := h.2 c5
    refine EV.iload_n 10 rfl 1 rfl rfl dX9_enumerated_9 ?_
    refine EV.aload_n 11 rfl 0 rfl rfl dX9_enumerated_10 ?_
    refine EV.getI 14 rfl fl_X9_263 rfl dX9_enumerated_11 w4 ?_
    refine EV.icmp_ge 17 26 rfl (by decide) dX9_enumerated_14 (fun c6 => ?_) (fun c6 => ?_)
    · have h := h.1 c6
      refine EV.mask [true, false] (L' := [some (.ref v0), none]) rfl ?_
      exact h
    · have h := h.2 c6
      refine EV.aload_n 18 rfl 0 rfl rfl dX9_enumerated_17 ?_
      obtain ⟨t7, g8, h⟩ := h
      refine EV.getR 21 rfl fl_X9_32 rfl dX9_enumerated_18 w4 g8 ?_
      refine EV.iload_n 22 rfl 1 rfl rfl dX9_enumerated_21 ?_
      obtain ⟨n10, w9, h⟩ := h
      obtain ⟨j11, x12, h⟩ := h
      refine EV.iald 23 rfl dX9_enumerated_22 w9 x12 ?_
      refine EV.goto 31 (by decide) dX9_enumerated_23 ?_
      exact EV.iret rfl dX9_enumerated_31 h
theorem eX9_enumerated {Γ : Gm} {d : Nat} {σ : AH} {Q : Oc → AH → Prop} {v0 : Nat} {v1 : Int32} (h : hs σ v0 = some (7, 27) ∧ ∀ σ2 : AH, σ2 = setI σ v0 0 0 → ((v1 < 0 → EV Γ MX9_enumerated d 26 [some (.ref v0), none] [] σ2 Q) ∧ (¬ v1 < 0 → (((gi σ2 v0 12) ≤ v1 → EV Γ MX9_enumerated d 26 [some (.ref v0), none] [] σ2 Q) ∧ (¬ (gi σ2 v0 12) ≤ v1 → ∃ t7 : Nat, gr σ2 v0 11 = some t7 ∧ ∃ n10 : Nat, hs σ2 t7 = some (22, n10) ∧ ∃ j11 : Nat, IX v1 n10 j11 ∧ Q (.inl (some (.int (gi σ2 t7 j11)))) σ2))))) : RUN Γ d MX9_enumerated [.ref v0, .int v1] σ Q :=
  EV.enter [some (.ref v0), some (.int v1)] rfl (by decide +kernel) (Nat.le_of_ble_eq_true rfl) rfl (gX9_enumerated_0 h)
theorem gX9_enumerated_26 {Γ : Gm} {d : Nat} {σ : AH} {Q : Oc → AH → Prop} {v0 : Nat} (h : hs σ v0 = some (7, 27) ∧ CI Γ d MX9_fail [.ref v0, .int 1] σ (fun r2 σ1 => Q (.inl (some (.int r2))) σ1) (fun E σ1 => Q (.inr E) σ1)) : EV Γ MX9_enumerated d 26 [some (.ref v0), none] [] σ Q := by
  refine EV.aload_n 27 rfl 0 rfl rfl dX9_enumerated_26 ?_
  refine EV.iconst 28 rfl dX9_enumerated_27 (v := 1) (by decide) ?_
  obtain ⟨w3, h⟩ := h
  refine EV.cV rfl rfl lk_X9_139 rfl (vs := [.int 1]) (st := []) rfl rfl (Nat.le_of_ble_eq_true rfl) dX9_enumerated_28 w3 h (fun v σ1 h => ?_)
  obtain ⟨r2, rfl, h⟩ := h
  show EV Γ MX9_enumerated d 31 [some (.ref v0), none] [.int r2] σ1 Q
  exact EV.iret rfl dX9_enumerated_31 h
theorem gX9_digest_0 {Γ : Gm} {d : Nat} {σ : AH} {Q : Oc → AH → Prop} {v0 : Nat} (h : hs σ v0 = some (7, 27) ∧ ∀ σ2 : AH, σ2 = setI σ v0 0 0 → EV Γ MX9_digest d 17 [some (.ref v0), some (.long ((899 : Int64) + (Int32.toInt64 (gi σ2 v0 6)))), none, some (.int 0)] [] σ2 Q) : EV Γ MX9_digest d 0 [some (.ref v0), none, none, none] [] σ Q := by
  refine EV.aload_n 1 rfl 0 rfl rfl dX9_digest_0 ?_
  refine EV.iconst 2 rfl dX9_digest_1 (v := 0) (by decide) ?_
  obtain ⟨w1, h⟩ := h
  refine EV.putI 5 rfl fw_X9_62 rfl (by decide) dX9_digest_2 w1 (EV.nm (fun σ2 e3 => ?_))
  have h := h σ2 e3
  have w4 := tr_hs (hs_setI_of e3) w1
  refine EV.ldc2 8 rfl k_X9_266 dX9_digest_5 ?_
  refine EV.aload_n 9 rfl 0 rfl rfl dX9_digest_8 ?_
  refine EV.getI 12 rfl fl_X9_133 rfl dX9_digest_9 w4 ?_
  refine EV.i2l 13 rfl dX9_digest_12 ?_
  refine EV.ladd 14 rfl dX9_digest_13 ?_
  refine EV.lstore_n 15 rfl 1 [some (.ref v0), some (.long ((899 : Int64) + (Int32.toInt64 (gi σ2 v0 6)))), none, none] rfl (by decide) rfl dX9_digest_14 ?_
  refine EV.iconst 16 rfl dX9_digest_15 (v := 0) (by decide) ?_
  refine EV.istore_n 17 rfl 3 [some (.ref v0), some (.long ((899 : Int64) + (Int32.toInt64 (gi σ2 v0 6)))), none, some (.int 0)] rfl (by decide) rfl dX9_digest_16 ?_
  exact h
theorem eX9_digest {Γ : Gm} {d : Nat} {σ : AH} {Q : Oc → AH → Prop} {v0 : Nat} (h : hs σ v0 = some (7, 27) ∧ ∀ σ2 : AH, σ2 = setI σ v0 0 0 → EV Γ MX9_digest d 17 [some (.ref v0), some (.long ((899 : Int64) + (Int32.toInt64 (gi σ2 v0 6)))), none, some (.int 0)] [] σ2 Q) : RUN Γ d MX9_digest [.ref v0] σ Q :=
  EV.enter [some (.ref v0), none, none, none] rfl (by decide +kernel) (Nat.le_of_ble_eq_true rfl) rfl (gX9_digest_0 h)
theorem gX9_digest_17 {Γ : Gm} {d : Nat} {σ : AH} {Q : Oc → AH → Prop} {v0 : Nat} {v1 : Int64} {v3 : Int32} (h : hs σ v0 = some (7, 27) ∧ (((gi σ v0 6) ≤ v3 → CI Γ d MX9_countAllNodes [.ref v0] σ (fun r4 σ3 => EV Γ MX9_digest d 91 [some (.ref v0), some (.long ((v1 * 31) + (Int32.toInt64 r4))), none, some (.int 0)] [] σ3 Q) (fun E σ3 => Q (.inr E) σ3)) ∧ (¬ (gi σ v0 6) ≤ v3 → ∃ t5 : Nat, gr σ v0 8 = some t5 ∧ ∃ n8 : Nat, hs σ t5 = some (21, n8) ∧ ∃ j9 : Nat, IX v3 n8 j9 ∧ (((gi σ t5 j9) = 0 → ∃ t12 : Nat, gr σ v0 9 = some t12 ∧ CI Γ d MX9_many [.ref t12, .int v3] σ (fun r15 σ14 => hs σ14 v0 = some (7, 27) ∧ CI Γ d MX9_countNodes [.ref v0, .int v3] σ14 (fun r17 σ16 => EV Γ MX9_digest d 17 [some (.ref v0), some (.long ((((v1 * 31) + (Int32.toInt64 r15)) * 31) + (Int32.toInt64 r17))), none, some (.int (v3 + 1))] [] σ16 Q) (fun E σ16 => Q (.inr E) σ16)) (fun _ _ => False)) ∧ (¬ (gi σ t5 j9) = 0 → EV Γ MX9_digest d 17 [some (.ref v0), some (.long ((v1 * 31) - 1)), none, some (.int (v3 + 1))] [] σ Q))))) : EV Γ MX9_digest d 17 [some (.ref v0), some (.long v1), none, some (.int v3)] [] σ Q := by
  refine EV.iload_n 18 rfl 3 rfl rfl dX9_digest_17 ?_
  refine EV.aload_n 19 rfl 0 rfl rfl dX9_digest_18 ?_
  obtain ⟨w1, h⟩ := h
  refine EV.getI 22 rfl fl_X9_133 rfl dX9_digest_19 w1 ?_
  refine EV.icmp_ge 25 77 rfl (by decide) dX9_digest_22 (fun c2 => ?_) (fun c2 => ?_)
  · have h := h.1 c2
    refine EV.lload_n 78 rfl 1 rfl rfl dX9_digest_77 ?_
    refine EV.ldc2 81 rfl k_X9_268 dX9_digest_78 ?_
    refine EV.lmul 82 rfl dX9_digest_81 ?_
    refine EV.aload_n 83 rfl 0 rfl rfl dX9_digest_82 ?_
    refine EV.cV rfl rfl lk_X9_240 rfl (vs := []) (st := [.long (v1 * 31)]) rfl rfl (Nat.le_of_ble_eq_true rfl) dX9_digest_83 w1 h (fun v σ3 h => ?_)
    obtain ⟨r4, rfl, h⟩ := h
    show EV Γ MX9_digest d 86 [some (.ref v0), some (.long v1), none, some (.int v3)] [.int r4, .long (v1 * 31)] σ3 Q
    refine EV.i2l 87 rfl dX9_digest_86 ?_
    refine EV.ladd 88 rfl dX9_digest_87 ?_
    refine EV.lstore_n 89 rfl 1 [some (.ref v0), some (.long ((v1 * 31) + (Int32.toInt64 r4))), none, some (.int v3)] rfl (by decide) rfl dX9_digest_88 ?_
    refine EV.iconst 90 rfl dX9_digest_89 (v := 0) (by decide) ?_
    refine EV.istore_n 91 rfl 3 [some (.ref v0), some (.long ((v1 * 31) + (Int32.toInt64 r4))), none, some (.int 0)] rfl (by decide) rfl dX9_digest_90 ?_
    exact h
  · have h := h.2 c2
    refine EV.aload_n 26 rfl 0 rfl rfl dX9_digest_25 ?_
    obtain ⟨t5, g6, h⟩ := h
    refine EV.getR 29 rfl fl_X9_20 rfl dX9_digest_26 w1 g6 ?_
    refine EV.iload_n 30 rfl 3 rfl rfl dX9_digest_29 ?_
    obtain ⟨n8, w7, h⟩ := h
    obtain ⟨j9, x10, h⟩ := h
    refine EV.zald 31 rfl dX9_digest_30 w7 x10 ?_
    refine EV.if_eq 34 44 rfl (by decide) dX9_digest_31 (fun c11 => ?_) (fun c11 => ?_)
    · have h := h.1 c11
      refine EV.lload_n 45 rfl 1 rfl rfl dX9_digest_44 ?_
      refine EV.ldc2 48 rfl k_X9_268 dX9_digest_45 ?_
      refine EV.lmul 49 rfl dX9_digest_48 ?_
      refine EV.aload_n 50 rfl 0 rfl rfl dX9_digest_49 ?_
      obtain ⟨t12, g13, h⟩ := h
      refine EV.getR 53 rfl fl_X9_24 rfl dX9_digest_50 w1 g13 ?_
      refine EV.iload_n 54 rfl 3 rfl rfl dX9_digest_53 ?_
      refine EV.cS rfl lk_X9_213 rfl (vs := [.ref t12, .int v3]) (st := [.long (v1 * 31)]) rfl rfl (Nat.le_of_ble_eq_true rfl) dX9_digest_54 h (fun v σ14 h => ?_)
      obtain ⟨r15, rfl, h⟩ := h
      show EV Γ MX9_digest d 57 [some (.ref v0), some (.long v1), none, some (.int v3)] [.int r15, .long (v1 * 31)] σ14 Q
      refine EV.i2l 58 rfl dX9_digest_57 ?_
      refine EV.ladd 59 rfl dX9_digest_58 ?_
      refine EV.ldc2 62 rfl k_X9_268 dX9_digest_59 ?_
      refine EV.lmul 63 rfl dX9_digest_62 ?_
      refine EV.aload_n 64 rfl 0 rfl rfl dX9_digest_63 ?_
      refine EV.iload_n 65 rfl 3 rfl rfl dX9_digest_64 ?_
      obtain ⟨w18, h⟩ := h
      refine EV.cV rfl rfl lk_X9_243 rfl (vs := [.int v3]) (st := [.long (((v1 * 31) + (Int32.toInt64 r15)) * 31)]) rfl rfl (Nat.le_of_ble_eq_true rfl) dX9_digest_65 w18 h (fun v σ16 h => ?_)
      obtain ⟨r17, rfl, h⟩ := h
      show EV Γ MX9_digest d 68 [some (.ref v0), some (.long v1), none, some (.int v3)] [.int r17, .long (((v1 * 31) + (Int32.toInt64 r15)) * 31)] σ16 Q
      refine EV.i2l 69 rfl dX9_digest_68 ?_
      refine EV.ladd 70 rfl dX9_digest_69 ?_
      refine EV.lstore_n 71 rfl 1 [some (.ref v0), some (.long ((((v1 * 31) + (Int32.toInt64 r15)) * 31) + (Int32.toInt64 r17))), none, some (.int v3)] rfl (by decide) rfl dX9_digest_70 ?_
      refine EV.iinc 74 rfl [some (.ref v0), some (.long ((((v1 * 31) + (Int32.toInt64 r15)) * 31) + (Int32.toInt64 r17))), none, some (.int (v3 + 1))] (v := 1) (by decide) (by decide) rfl rfl dX9_digest_71 ?_
      refine EV.goto 17 (by decide) dX9_digest_74 ?_
      exact h
    · have h := h.2 c11
      refine EV.lload_n 35 rfl 1 rfl rfl dX9_digest_34 ?_
      refine EV.ldc2 38 rfl k_X9_268 dX9_digest_35 ?_
      refine EV.lmul 39 rfl dX9_digest_38 ?_
      refine EV.lconst 40 rfl dX9_digest_39 (v := 1) (by decide) ?_
      refine EV.lsub 41 rfl dX9_digest_40 ?_
      refine EV.goto 70 (by decide) dX9_digest_41 ?_
      refine EV.lstore_n 71 rfl 1 [some (.ref v0), some (.long ((v1 * 31) - 1)), none, some (.int v3)] rfl (by decide) rfl dX9_digest_70 ?_
      refine EV.iinc 74 rfl [some (.ref v0), some (.long ((v1 * 31) - 1)), none, some (.int (v3 + 1))] (v := 1) (by decide) (by decide) rfl rfl dX9_digest_71 ?_
      refine EV.goto 17 (by decide) dX9_digest_74 ?_
      exact h
theorem gX9_digest_91 {Γ : Gm} {d : Nat} {σ : AH} {Q : Oc → AH → Prop} {v0 : Nat} {v1 : Int64} {v3 : Int32} (h : ((12 ≤ v3 → Q (.inl (some (.long v1))) σ) ∧ (¬ 12 ≤ v3 → hs σ v0 = some (7, 27) ∧ ∃ t3 : Nat, gr σ v0 10 = some t3 ∧ ∃ n6 : Nat, hs σ t3 = some (22, n6) ∧ ∃ j7 : Nat, IX v3 n6 j7 ∧ EV Γ MX9_digest d 91 [some (.ref v0), some (.long ((v1 * 31) + (Int32.toInt64 (gi σ t3 j7)))), none, some (.int (v3 + 1))] [] σ Q))) : EV Γ MX9_digest d 91 [some (.ref v0), some (.long v1), none, some (.int v3)] [] σ Q := by
  refine EV.iload_n 92 rfl 3 rfl rfl dX9_digest_91 ?_
  refine EV.bipush 94 rfl dX9_digest_92 (v := 12) (by decide) ?_
  refine EV.icmp_ge 97 117 rfl (by decide) dX9_digest_94 (fun c1 => ?_) (fun c1 => ?_)
  · have h := h.1 c1
    refine EV.lload_n 118 rfl 1 rfl rfl dX9_digest_117 ?_
    exact EV.lret rfl dX9_digest_118 h
  · have h := h.2 c1
    refine EV.lload_n 98 rfl 1 rfl rfl dX9_digest_97 ?_
    refine EV.ldc2 101 rfl k_X9_268 dX9_digest_98 ?_
    refine EV.lmul 102 rfl dX9_digest_101 ?_
    refine EV.aload_n 103 rfl 0 rfl rfl dX9_digest_102 ?_
    obtain ⟨w2, h⟩ := h
    obtain ⟨t3, g4, h⟩ := h
    refine EV.getR 106 rfl fl_X9_28 rfl dX9_digest_103 w2 g4 ?_
    refine EV.iload_n 107 rfl 3 rfl rfl dX9_digest_106 ?_
    obtain ⟨n6, w5, h⟩ := h
    obtain ⟨j7, x8, h⟩ := h
    refine EV.iald 108 rfl dX9_digest_107 w5 x8 ?_
    refine EV.i2l 109 rfl dX9_digest_108 ?_
    refine EV.ladd 110 rfl dX9_digest_109 ?_
    refine EV.lstore_n 111 rfl 1 [some (.ref v0), some (.long ((v1 * 31) + (Int32.toInt64 (gi σ t3 j7)))), none, some (.int v3)] rfl (by decide) rfl dX9_digest_110 ?_
    refine EV.iinc 114 rfl [some (.ref v0), some (.long ((v1 * 31) + (Int32.toInt64 (gi σ t3 j7)))), none, some (.int (v3 + 1))] (v := 1) (by decide) (by decide) rfl rfl dX9_digest_111 ?_
    refine EV.goto 91 (by decide) dX9_digest_114 ?_
    exact h
