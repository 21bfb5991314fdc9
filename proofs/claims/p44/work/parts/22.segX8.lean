theorem gX8_init_0 {Γ : Gm} {d : Nat} {σ : AH} {Q : Oc → AH → Prop} {v0 : Nat} (h : 1 ≤ d ∧ ∀ (q2 : Nat) (σ3 : AH), q2 = lo Γ + hc σ → σ3 = mk σ q2 20 200 → hs σ3 v0 = some (6, 17) ∧ ∀ σ6 : AH, σ6 = setR σ3 v0 0 (some q2) → ∀ σ10 : AH, σ10 = setI σ6 v0 1 0 → ∀ σ14 : AH, σ14 = setI σ10 v0 2 (-1) → ∀ (q18 : Nat) (σ19 : AH), q18 = lo Γ + hc σ14 → σ19 = mk σ14 q18 20 1000 → hs σ19 v0 = some (6, 17) ∧ ∀ σ22 : AH, σ22 = setR σ19 v0 3 (some q18) → ∀ σ26 : AH, σ26 = setI σ22 v0 4 0 → ∀ (q30 : Nat) (σ31 : AH), q30 = lo Γ + hc σ26 → σ31 = mk σ26 q30 25 200 → hs σ31 v0 = some (6, 17) ∧ ∀ σ34 : AH, σ34 = setR σ31 v0 5 (some q30) → ∀ σ38 : AH, σ38 = setI σ34 v0 6 0 → ∀ σ42 : AH, σ42 = setI σ38 v0 7 0 → ∀ (q46 : Nat) (σ47 : AH), q46 = lo Γ + hc σ42 → σ47 = mk σ42 q46 22 4096 → hs σ47 v0 = some (6, 17) ∧ ∀ σ50 : AH, σ50 = setR σ47 v0 8 (some q46) → ∀ (q54 : Nat) (σ55 : AH), q54 = lo Γ + hc σ50 → σ55 = mk σ50 q54 22 4096 → hs σ55 v0 = some (6, 17) ∧ ∀ σ58 : AH, σ58 = setR σ55 v0 9 (some q54) → ∀ (q62 : Nat) (σ63 : AH), q62 = lo Γ + hc σ58 → σ63 = mk σ58 q62 0 4 → hs σ63 v0 = some (6, 17) ∧ ∃ t66 : Nat, gr σ63 v0 8 = some t66 ∧ ∃ t68 : Nat, gr σ63 v0 9 = some t68 ∧ CV Γ d MX0_init [.ref q62, .ref t66, .ref t68] σ63 (fun σ70 => hs σ70 v0 = some (6, 17) ∧ ∀ σ73 : AH, σ73 = setR σ70 v0 10 (some q62) → ∀ (q76 : Nat) (σ77 : AH), q76 = lo Γ + hc σ73 → σ77 = mk σ73 q76 3 8 → hs σ77 v0 = some (6, 17) ∧ ∃ t80 : Nat, gr σ77 v0 8 = some t80 ∧ CV Γ d MX3_init [.ref q76, .ref t80] σ77 (fun σ82 => hs σ82 v0 = some (6, 17) ∧ ∀ σ85 : AH, σ85 = setR σ82 v0 11 (some q76) → ∀ (q88 : Nat) (σ89 : AH), q88 = lo Γ + hc σ85 → σ89 = mk σ85 q88 5 10 → CV Γ d MX6_init [.ref q88] σ89 (fun σ91 => hs σ91 v0 = some (6, 17) ∧ ∀ σ94 : AH, σ94 = setR σ91 v0 12 (some q88) → ∀ (q97 : Nat) (σ98 : AH), q97 = lo Γ + hc σ94 → σ98 = mk σ94 q97 1 2 → CV Γ d MX1_init [.ref q97] σ98 (fun σ100 => hs σ100 v0 = some (6, 17) ∧ ∀ σ103 : AH, σ103 = setR σ100 v0 13 (some q97) → ∀ (q106 : Nat) (σ107 : AH), q106 = lo Γ + hc σ103 → σ107 = mk σ103 q106 2 3 → CV Γ d MX2_init [.ref q106] σ107 (fun σ109 => hs σ109 v0 = some (6, 17) ∧ ∀ σ112 : AH, σ112 = setR σ109 v0 14 (some q106) → ∀ (q115 : Nat) (σ116 : AH), q115 = lo Γ + hc σ112 → σ116 = mk σ112 q115 22 300 → hs σ116 v0 = some (6, 17) ∧ ∀ σ119 : AH, σ119 = setR σ116 v0 15 (some q115) → ∀ σ123 : AH, σ123 = setI σ119 v0 16 0 → Q (.inl none) σ123) (fun _ _ => False)) (fun _ _ => False)) (fun _ _ => False)) (fun _ _ => False)) (fun _ _ => False)) : EV Γ MX8_init d 0 [some (.ref v0)] [] σ Q := by
  refine EV.aload_n 1 rfl 0 rfl rfl dX8_init_0 ?_
  obtain ⟨z1, h⟩ := h
  refine EV.objInit 4 rfl oi_X8_1 z1 (Nat.le_of_ble_eq_true rfl) dX8_init_1 ?_
  refine EV.aload_n 5 rfl 0 rfl rfl dX8_init_4 ?_
  refine EV.sipush 8 rfl dX8_init_5 (v := 200) (by decide) ?_
  refine EV.newB 10 rfl (n := 200) ac_byte dX8_init_8 (by decide) (Nat.le_of_ble_eq_true rfl) (EV.nq (fun q2 σ3 eq2 eσ3 => ?_))
  have h := h q2 σ3 eq2 eσ3
  have w4 : hs σ3 q2 = some (20, 200) := by rw [eσ3]; exact up_same _ _ _
  obtain ⟨w5, h⟩ := h
  refine EV.putFR 13 rfl rfl ff_X8_9 rfl (by decide) dX8_init_10 w5 (EV.nm (fun σ6 e7 => ?_))
  have h := h σ6 e7
  have w8 := tr_hs (hs_setR_of e7) w4
  have w9 := tr_hs (hs_setR_of e7) w5
  refine EV.aload_n 14 rfl 0 rfl rfl dX8_init_13 ?_
  refine EV.iconst 15 rfl dX8_init_14 (v := 0) (by decide) ?_
  refine EV.putI 18 rfl fw_X8_13 rfl (by decide) dX8_init_15 w9 (EV.nm (fun σ10 e11 => ?_))
  have h := h σ10 e11
  have w12 := tr_hs (hs_setI_of e11) w8
  have w13 := tr_hs (hs_setI_of e11) w9
  refine EV.aload_n 19 rfl 0 rfl rfl dX8_init_18 ?_
  refine EV.iconst 20 rfl dX8_init_19 (v := (-1)) (by decide) ?_
  refine EV.putI 23 rfl fw_X8_17 rfl (by decide) dX8_init_20 w13 (EV.nm (fun σ14 e15 => ?_))
  have h := h σ14 e15
  have w16 := tr_hs (hs_setI_of e15) w12
  have w17 := tr_hs (hs_setI_of e15) w13
  refine EV.aload_n 24 rfl 0 rfl rfl dX8_init_23 ?_
  refine EV.sipush 27 rfl dX8_init_24 (v := 1000) (by decide) ?_
  refine EV.newB 29 rfl (n := 1000) ac_byte dX8_init_27 (by decide) (Nat.le_of_ble_eq_true rfl) (EV.nq (fun q18 σ19 eq18 eσ19 => ?_))
  have h := h q18 σ19 eq18 eσ19
  have w20 : hs σ19 q18 = some (20, 1000) := by rw [eσ19]; exact up_same _ _ _
  obtain ⟨w21, h⟩ := h
  refine EV.putFR 32 rfl rfl ff_X8_20 rfl (by decide) dX8_init_29 w21 (EV.nm (fun σ22 e23 => ?_))
  have h := h σ22 e23
  have w24 := tr_hs (hs_setR_of e23) w20
  have w25 := tr_hs (hs_setR_of e23) w21
  refine EV.aload_n 33 rfl 0 rfl rfl dX8_init_32 ?_
  refine EV.iconst 34 rfl dX8_init_33 (v := 0) (by decide) ?_
  refine EV.putI 37 rfl fw_X8_23 rfl (by decide) dX8_init_34 w25 (EV.nm (fun σ26 e27 => ?_))
  have h := h σ26 e27
  have w28 := tr_hs (hs_setI_of e27) w24
  have w29 := tr_hs (hs_setI_of e27) w25
  refine EV.aload_n 38 rfl 0 rfl rfl dX8_init_37 ?_
  refine EV.sipush 41 rfl dX8_init_38 (v := 200) (by decide) ?_
  refine EV.newF 44 rfl (n := 200) an_X8_26 ao_F dX8_init_41 (by decide) (Nat.le_of_ble_eq_true rfl) (EV.nq (fun q30 σ31 eq30 eσ31 => ?_))
  have h := h q30 σ31 eq30 eσ31
  have w32 : hs σ31 q30 = some (25, 200) := by rw [eσ31]; exact up_same _ _ _
  obtain ⟨w33, h⟩ := h
  refine EV.putFR 47 rfl rfl ff_X8_28 rfl (by decide) dX8_init_44 w33 (EV.nm (fun σ34 e35 => ?_))
  have h := h σ34 e35
  have w36 := tr_hs (hs_setR_of e35) w32
  have w37 := tr_hs (hs_setR_of e35) w33
  refine EV.aload_n 48 rfl 0 rfl rfl dX8_init_47 ?_
  refine EV.iconst 49 rfl dX8_init_48 (v := 0) (by decide) ?_
  refine EV.putI 52 rfl fw_X8_32 rfl (by decide) dX8_init_49 w37 (EV.nm (fun σ38 e39 => ?_))
  have h := h σ38 e39
  have w40 := tr_hs (hs_setI_of e39) w36
  have w41 := tr_hs (hs_setI_of e39) w37
  refine EV.aload_n 53 rfl 0 rfl rfl dX8_init_52 ?_
  refine EV.iconst 54 rfl dX8_init_53 (v := 0) (by decide) ?_
  refine EV.putI 57 rfl fw_X8_35 rfl (by decide) dX8_init_54 w41 (EV.nm (fun σ42 e43 => ?_))
  have h := h σ42 e43
  have w44 := tr_hs (hs_setI_of e43) w40
  have w45 := tr_hs (hs_setI_of e43) w41
  refine EV.aload_n 58 rfl 0 rfl rfl dX8_init_57 ?_
  refine EV.sipush 61 rfl dX8_init_58 (v := 4096) (by decide) ?_
  refine EV.newI 63 rfl (n := 4096) ac_int dX8_init_61 (by decide) (Nat.le_of_ble_eq_true rfl) (EV.nq (fun q46 σ47 eq46 eσ47 => ?_))
  have h := h q46 σ47 eq46 eσ47
  have w48 : hs σ47 q46 = some (22, 4096) := by rw [eσ47]; exact up_same _ _ _
  obtain ⟨w49, h⟩ := h
  refine EV.putFR 66 rfl rfl ff_X8_38 rfl (by decide) dX8_init_63 w49 (EV.nm (fun σ50 e51 => ?_))
  have h := h σ50 e51
  have w52 := tr_hs (hs_setR_of e51) w48
  have w53 := tr_hs (hs_setR_of e51) w49
  refine EV.aload_n 67 rfl 0 rfl rfl dX8_init_66 ?_
  refine EV.sipush 70 rfl dX8_init_67 (v := 4096) (by decide) ?_
  refine EV.newI 72 rfl (n := 4096) ac_int dX8_init_70 (by decide) (Nat.le_of_ble_eq_true rfl) (EV.nq (fun q54 σ55 eq54 eσ55 => ?_))
  have h := h q54 σ55 eq54 eσ55
  have w56 : hs σ55 q54 = some (22, 4096) := by rw [eσ55]; exact up_same _ _ _
  obtain ⟨w57, h⟩ := h
  refine EV.putFR 75 rfl rfl ff_X8_42 rfl (by decide) dX8_init_72 w57 (EV.nm (fun σ58 e59 => ?_))
  have h := h σ58 e59
  have w60 := tr_hs (hs_setR_of e59) w56
  have w61 := tr_hs (hs_setR_of e59) w57
  refine EV.aload_n 76 rfl 0 rfl rfl dX8_init_75 ?_
  refine EV.new 79 rfl nl_X8_45 (n := 4) rfl dX8_init_76 (EV.nq (fun q62 σ63 eq62 eσ63 => ?_))
  have h := h q62 σ63 eq62 eσ63
  have w64 : hs σ63 q62 = some (0, 4) := by rw [eσ63]; exact up_same _ _ _
  refine EV.dup 80 rfl dX8_init_79 rfl ?_
  refine EV.aload_n 81 rfl 0 rfl rfl dX8_init_80 ?_
  obtain ⟨w65, h⟩ := h
  obtain ⟨t66, g67, h⟩ := h
  refine EV.getR 84 rfl fl_X8_38 rfl dX8_init_81 w65 g67 ?_
  refine EV.aload_n 85 rfl 0 rfl rfl dX8_init_84 ?_
  obtain ⟨t68, g69, h⟩ := h
  refine EV.getR 88 rfl fl_X8_42 rfl dX8_init_85 w65 g69 ?_
  refine EV.cI rfl lk_X8_47 rfl rfl (vs := [.ref t66, .ref t68]) (st := [.ref q62, .ref v0]) rfl rfl (Nat.le_of_ble_eq_true rfl) dX8_init_88 h (fun  σ70 h => ?_)
  obtain ⟨w72, h⟩ := h
  refine EV.putFR 94 rfl rfl ff_X8_50 rfl (by decide) dX8_init_91 w72 (EV.nm (fun σ73 e74 => ?_))
  have h := h σ73 e74
  have w75 := tr_hs (hs_setR_of e74) w72
  refine EV.aload_n 95 rfl 0 rfl rfl dX8_init_94 ?_
  refine EV.new 98 rfl nl_X8_54 (n := 8) rfl dX8_init_95 (EV.nq (fun q76 σ77 eq76 eσ77 => ?_))
  have h := h q76 σ77 eq76 eσ77
  have w78 : hs σ77 q76 = some (3, 8) := by rw [eσ77]; exact up_same _ _ _
  refine EV.dup 99 rfl dX8_init_98 rfl ?_
  refine EV.aload_n 100 rfl 0 rfl rfl dX8_init_99 ?_
  obtain ⟨w79, h⟩ := h
  obtain ⟨t80, g81, h⟩ := h
  refine EV.getR 103 rfl fl_X8_38 rfl dX8_init_100 w79 g81 ?_
  refine EV.cI rfl lk_X8_56 rfl rfl (vs := [.ref t80]) (st := [.ref q76, .ref v0]) rfl rfl (Nat.le_of_ble_eq_true rfl) dX8_init_103 h (fun  σ82 h => ?_)
  obtain ⟨w84, h⟩ := h
  refine EV.putFR 109 rfl rfl ff_X8_59 rfl (by decide) dX8_init_106 w84 (EV.nm (fun σ85 e86 => ?_))
  have h := h σ85 e86
  have w87 := tr_hs (hs_setR_of e86) w84
  refine EV.aload_n 110 rfl 0 rfl rfl dX8_init_109 ?_
  refine EV.new 113 rfl nl_X8_63 (n := 10) rfl dX8_init_110 (EV.nq (fun q88 σ89 eq88 eσ89 => ?_))
  have h := h q88 σ89 eq88 eσ89
  have w90 : hs σ89 q88 = some (5, 10) := by rw [eσ89]; exact up_same _ _ _
  refine EV.dup 114 rfl dX8_init_113 rfl ?_
  refine EV.cIN rfl lk_X8_65 rfl rfl (vs := []) (st := [.ref q88, .ref v0]) rfl rfl (Nat.le_of_ble_eq_true rfl) dX8_init_114 h (fun  σ91 h => ?_)
  obtain ⟨w93, h⟩ := h
  refine EV.putFR 120 rfl rfl ff_X8_66 rfl (by decide) dX8_init_117 w93 (EV.nm (fun σ94 e95 => ?_))
  have h := h σ94 e95
  have w96 := tr_hs (hs_setR_of e95) w93
  refine EV.aload_n 121 rfl 0 rfl rfl dX8_init_120 ?_
  refine EV.new 124 rfl nl_X8_70 (n := 2) rfl dX8_init_121 (EV.nq (fun q97 σ98 eq97 eσ98 => ?_))
  have h := h q97 σ98 eq97 eσ98
  have w99 : hs σ98 q97 = some (1, 2) := by rw [eσ98]; exact up_same _ _ _
  refine EV.dup 125 rfl dX8_init_124 rfl ?_
  refine EV.cIN rfl lk_X8_72 rfl rfl (vs := []) (st := [.ref q97, .ref v0]) rfl rfl (Nat.le_of_ble_eq_true rfl) dX8_init_125 h (fun  σ100 h => ?_)
  obtain ⟨w102, h⟩ := h
  refine EV.putFR 131 rfl rfl ff_X8_73 rfl (by decide) dX8_init_128 w102 (EV.nm (fun σ103 e104 => ?_))
  have h := h σ103 e104
  have w105 := tr_hs (hs_setR_of e104) w102
  refine EV.aload_n 132 rfl 0 rfl rfl dX8_init_131 ?_
  refine EV.new 135 rfl nl_X8_77 (n := 3) rfl dX8_init_132 (EV.nq (fun q106 σ107 eq106 eσ107 => ?_))
  have h := h q106 σ107 eq106 eσ107
  have w108 : hs σ107 q106 = some (2, 3) := by rw [eσ107]; exact up_same _ _ _
  refine EV.dup 136 rfl dX8_init_135 rfl ?_
  refine EV.cIN rfl lk_X8_79 rfl rfl (vs := []) (st := [.ref q106, .ref v0]) rfl rfl (Nat.le_of_ble_eq_true rfl) dX8_init_136 h (fun  σ109 h => ?_)
  obtain ⟨w111, h⟩ := h
  refine EV.putFR 142 rfl rfl ff_X8_80 rfl (by decide) dX8_init_139 w111 (EV.nm (fun σ112 e113 => ?_))
  have h := h σ112 e113
  have w114 := tr_hs (hs_setR_of e113) w111
  refine EV.aload_n 143 rfl 0 rfl rfl dX8_init_142 ?_
  refine EV.sipush 146 rfl dX8_init_143 (v := 300) (by decide) ?_
  refine EV.newI 148 rfl (n := 300) ac_int dX8_init_146 (by decide) (Nat.le_of_ble_eq_true rfl) (EV.nq (fun q115 σ116 eq115 eσ116 => ?_))
  have h := h q115 σ116 eq115 eσ116
  have w117 : hs σ116 q115 = some (22, 300) := by rw [eσ116]; exact up_same _ _ _
  obtain ⟨w118, h⟩ := h
  refine EV.putFR 151 rfl rfl ff_X8_84 rfl (by decide) dX8_init_148 w118 (EV.nm (fun σ119 e120 => ?_))
  have h := h σ119 e120
  have w121 := tr_hs (hs_setR_of e120) w117
  have w122 := tr_hs (hs_setR_of e120) w118
  refine EV.aload_n 152 rfl 0 rfl rfl dX8_init_151 ?_
  refine EV.iconst 153 rfl dX8_init_152 (v := 0) (by decide) ?_
  refine EV.putI 156 rfl fw_X8_87 rfl (by decide) dX8_init_153 w122 (EV.nm (fun σ123 e124 => ?_))
  have h := h σ123 e124
  have w125 := tr_hs (hs_setI_of e124) w121
  have w126 := tr_hs (hs_setI_of e124) w122
  exact EV.vret rfl dX8_init_156 h
theorem eX8_init {Γ : Gm} {d : Nat} {σ : AH} {Q : Oc → AH → Prop} {v0 : Nat} (h : 1 ≤ d ∧ ∀ (q2 : Nat) (σ3 : AH), q2 = lo Γ + hc σ → σ3 = mk σ q2 20 200 → hs σ3 v0 = some (6, 17) ∧ ∀ σ6 : AH, σ6 = setR σ3 v0 0 (some q2) → ∀ σ10 : AH, σ10 = setI σ6 v0 1 0 → ∀ σ14 : AH, σ14 = setI σ10 v0 2 (-1) → ∀ (q18 : Nat) (σ19 : AH), q18 = lo Γ + hc σ14 → σ19 = mk σ14 q18 20 1000 → hs σ19 v0 = some (6, 17) ∧ ∀ σ22 : AH, σ22 = setR σ19 v0 3 (some q18) → ∀ σ26 : AH, σ26 = setI σ22 v0 4 0 → ∀ (q30 : Nat) (σ31 : AH), q30 = lo Γ + hc σ26 → σ31 = mk σ26 q30 25 200 → hs σ31 v0 = some (6, 17) ∧ ∀ σ34 : AH, σ34 = setR σ31 v0 5 (some q30) → ∀ σ38 : AH, σ38 = setI σ34 v0 6 0 → ∀ σ42 : AH, σ42 = setI σ38 v0 7 0 → ∀ (q46 : Nat) (σ47 : AH), q46 = lo Γ + hc σ42 → σ47 = mk σ42 q46 22 4096 → hs σ47 v0 = some (6, 17) ∧ ∀ σ50 : AH, σ50 = setR σ47 v0 8 (some q46) → ∀ (q54 : Nat) (σ55 : AH), q54 = lo Γ + hc σ50 → σ55 = mk σ50 q54 22 4096 → hs σ55 v0 = some (6, 17) ∧ ∀ σ58 : AH, σ58 = setR σ55 v0 9 (some q54) → ∀ (q62 : Nat) (σ63 : AH), q62 = lo Γ + hc σ58 → σ63 = mk σ58 q62 0 4 → hs σ63 v0 = some (6, 17) ∧ ∃ t66 : Nat, gr σ63 v0 8 = some t66 ∧ ∃ t68 : Nat, gr σ63 v0 9 = some t68 ∧ CV Γ d MX0_init [.ref q62, .ref t66, .ref t68] σ63 (fun σ70 => hs σ70 v0 = some (6, 17) ∧ ∀ σ73 : AH, σ73 = setR σ70 v0 10 (some q62) → ∀ (q76 : Nat) (σ77 : AH), q76 = lo Γ + hc σ73 → σ77 = mk σ73 q76 3 8 → hs σ77 v0 = some (6, 17) ∧ ∃ t80 : Nat, gr σ77 v0 8 = some t80 ∧ CV Γ d MX3_init [.ref q76, .ref t80] σ77 (fun σ82 => hs σ82 v0 = some (6, 17) ∧ ∀ σ85 : AH, σ85 = setR σ82 v0 11 (some q76) → ∀ (q88 : Nat) (σ89 : AH), q88 = lo Γ + hc σ85 → σ89 = mk σ85 q88 5 10 → CV Γ d MX6_init [.ref q88] σ89 (fun σ91 => hs σ91 v0 = some (6, 17) ∧ ∀ σ94 : AH, σ94 = setR σ91 v0 12 (some q88) → ∀ (q97 : Nat) (σ98 : AH), q97 = lo Γ + hc σ94 → σ98 = mk σ94 q97 1 2 → CV Γ d MX1_init [.ref q97] σ98 (fun σ100 => hs σ100 v0 = some (6, 17) ∧ ∀ σ103 : AH, σ103 = setR σ100 v0 13 (some q97) → ∀ (q106 : Nat) (σ107 : AH), q106 = lo Γ + hc σ103 → σ107 = mk σ103 q106 2 3 → CV Γ d MX2_init [.ref q106] σ107 (fun σ109 => hs σ109 v0 = some (6, 17) ∧ ∀ σ112 : AH, σ112 = setR σ109 v0 14 (some q106) → ∀ (q115 : Nat) (σ116 : AH), q115 = lo Γ + hc σ112 → σ116 = mk σ112 q115 22 300 → hs σ116 v0 = some (6, 17) ∧ ∀ σ119 : AH, σ119 = setR σ116 v0 15 (some q115) → ∀ σ123 : AH, σ123 = setI σ119 v0 16 0 → Q (.inl none) σ123) (fun _ _ => False)) (fun _ _ => False)) (fun _ _ => False)) (fun _ _ => False)) (fun _ _ => False)) : RUN Γ d MX8_init [.ref v0] σ Q :=
  EV.enter [some (.ref v0)] rfl (by decide +kernel) (Nat.le_of_ble_eq_true rfl) rfl (gX8_init_0 h)
theorem gX8_single_0 {Γ : Gm} {d : Nat} {σ : AH} {Q : Oc → AH → Prop} {v0 : Nat} {v1 : Int32} (h : hs σ v0 = some (6, 17) ∧ CV Γ d MX8_checkMask [.ref v0, .int v1] σ (fun σ1 => hs σ1 v0 = some (6, 17) ∧ CV Γ d MX8_checkRoom [.ref v0] σ1 (fun σ4 => ∀ (q7 : Nat) (σ8 : AH), q7 = lo Γ + hc σ4 → σ8 = mk σ4 q7 23 64 → CV Γ d MX7_put [.ref q7, .int v1] σ8 (fun σ10 => hs σ10 v0 = some (6, 17) ∧ CI Γ d MX8_addFamily [.ref v0, .ref q7] σ10 (fun r13 σ12 => Q (.inl (some (.int r13))) σ12) (fun E σ12 => Q (.inr E) σ12)) (fun _ _ => False)) (fun E σ4 => Q (.inr E) σ4)) (fun E σ1 => Q (.inr E) σ1)) : EV Γ MX8_single d 0 [some (.ref v0), some (.int v1), none] [] σ Q := by
  refine EV.aload_n 1 rfl 0 rfl rfl dX8_single_0 ?_
  refine EV.iload_n 2 rfl 1 rfl rfl dX8_single_1 ?_
  obtain ⟨w3, h⟩ := h
  refine EV.cV rfl rfl lk_X8_162 rfl (vs := [.int v1]) (st := []) rfl rfl (Nat.le_of_ble_eq_true rfl) dX8_single_2 w3 h (fun v σ1 h => ?_)
  obtain ⟨rfl, h⟩ := h
  show EV Γ MX8_single d 5 [some (.ref v0), some (.int v1), none] [] σ1 Q
  refine EV.aload_n 6 rfl 0 rfl rfl dX8_single_5 ?_
  obtain ⟨w6, h⟩ := h
  refine EV.cV rfl rfl lk_X8_104 rfl (vs := []) (st := []) rfl rfl (Nat.le_of_ble_eq_true rfl) dX8_single_6 w6 h (fun v σ4 h => ?_)
  obtain ⟨rfl, h⟩ := h
  show EV Γ MX8_single d 9 [some (.ref v0), some (.int v1), none] [] σ4 Q
  refine EV.bipush 11 rfl dX8_single_9 (v := 64) (by decide) ?_
  refine EV.newJ 13 rfl (n := 64) ac_long dX8_single_11 (by decide) (Nat.le_of_ble_eq_true rfl) (EV.nq (fun q7 σ8 eq7 eσ8 => ?_))
  have h := h q7 σ8 eq7 eσ8
  have w9 : hs σ8 q7 = some (23, 64) := by rw [eσ8]; exact up_same _ _ _
  refine EV.astore_n 14 rfl 2 [some (.ref v0), some (.int v1), some (.ref q7)] rfl (by decide) rfl dX8_single_13 ?_
  refine EV.aload_n 15 rfl 2 rfl rfl dX8_single_14 ?_
  refine EV.iload_n 16 rfl 1 rfl rfl dX8_single_15 ?_
  refine EV.cS rfl lk_X8_165 rfl (vs := [.ref q7, .int v1]) (st := []) rfl rfl (Nat.le_of_ble_eq_true rfl) dX8_single_16 h (fun v σ10 h => ?_)
  obtain ⟨rfl, h⟩ := h
  show EV Γ MX8_single d 19 [some (.ref v0), some (.int v1), some (.ref q7)] [] σ10 Q
  refine EV.aload_n 20 rfl 0 rfl rfl dX8_single_19 ?_
  refine EV.aload_n 21 rfl 2 rfl rfl dX8_single_20 ?_
  obtain ⟨w14, h⟩ := h
  refine EV.cV rfl rfl lk_X8_120 rfl (vs := [.ref q7]) (st := []) rfl rfl (Nat.le_of_ble_eq_true rfl) dX8_single_21 w14 h (fun v σ12 h => ?_)
  obtain ⟨r13, rfl, h⟩ := h
  show EV Γ MX8_single d 24 [some (.ref v0), some (.int v1), some (.ref q7)] [.int r13] σ12 Q
  exact EV.iret rfl dX8_single_24 h
theorem eX8_single {Γ : Gm} {d : Nat} {σ : AH} {Q : Oc → AH → Prop} {v0 : Nat} {v1 : Int32} (h : hs σ v0 = some (6, 17) ∧ CV Γ d MX8_checkMask [.ref v0, .int v1] σ (fun σ1 => hs σ1 v0 = some (6, 17) ∧ CV Γ d MX8_checkRoom [.ref v0] σ1 (fun σ4 => ∀ (q7 : Nat) (σ8 : AH), q7 = lo Γ + hc σ4 → σ8 = mk σ4 q7 23 64 → CV Γ d MX7_put [.ref q7, .int v1] σ8 (fun σ10 => hs σ10 v0 = some (6, 17) ∧ CI Γ d MX8_addFamily [.ref v0, .ref q7] σ10 (fun r13 σ12 => Q (.inl (some (.int r13))) σ12) (fun E σ12 => Q (.inr E) σ12)) (fun _ _ => False)) (fun E σ4 => Q (.inr E) σ4)) (fun E σ1 => Q (.inr E) σ1)) : RUN Γ d MX8_single [.ref v0, .int v1] σ Q :=
  EV.enter [some (.ref v0), some (.int v1), none] rfl (by decide +kernel) (Nat.le_of_ble_eq_true rfl) rfl (gX8_single_0 h)
theorem gX8_subsetsOf_0 {Γ : Gm} {d : Nat} {σ : AH} {Q : Oc → AH → Prop} {v0 : Nat} {v1 : Int32} {v2 : Int32} (h : hs σ v0 = some (6, 17) ∧ CV Γ d MX8_checkMask [.ref v0, .int v1] σ (fun σ1 => ((v2 < (-1) → EV Γ MX8_subsetsOf d 16 [none, none, none, none, none] [] σ1 Q) ∧ (¬ v2 < (-1) → ((v2 ≤ 12 → hs σ1 v0 = some (6, 17) ∧ CV Γ d MX8_checkRoom [.ref v0] σ1 (fun σ6 => ∀ (q9 : Nat) (σ10 : AH), q9 = lo Γ + hc σ6 → σ10 = mk σ6 q9 23 64 → EV Γ MX8_subsetsOf d 36 [some (.ref v0), some (.int v1), some (.int v2), some (.ref q9), some (.int 0)] [] σ10 Q) (fun E σ6 => Q (.inr E) σ6)) ∧ (¬ v2 ≤ 12 → EV Γ MX8_subsetsOf d 16 [none, none, none, none, none] [] σ1 Q))))) (fun E σ1 => Q (.inr E) σ1)) : EV Γ MX8_subsetsOf d 0 [some (.ref v0), some (.int v1), some (.int v2), none, none] [] σ Q := by
  refine EV.aload_n 1 rfl 0 rfl rfl dX8_subsetsOf_0 ?_
  refine EV.iload_n 2 rfl 1 rfl rfl dX8_subsetsOf_1 ?_
  obtain ⟨w3, h⟩ := h
  refine EV.cV rfl rfl lk_X8_162 rfl (vs := [.int v1]) (st := []) rfl rfl (Nat.le_of_ble_eq_true rfl) dX8_subsetsOf_2 w3 h (fun v σ1 h => ?_)
  obtain ⟨rfl, h⟩ := h
  show EV Γ MX8_subsetsOf d 5 [some (.ref v0), some (.int v1), some (.int v2), none, none] [] σ1 Q
  refine EV.iload_n 6 rfl 2 rfl rfl dX8_subsetsOf_5 ?_
  refine EV.iconst 7 rfl dX8_subsetsOf_6 (v := (-1)) (by decide) ?_
  refine EV.icmp_lt 10 16 rfl (by decide) dX8_subsetsOf_7 (fun c4 => ?_) (fun c4 => ?_)
  · have h := h.1 c4
    refine EV.mask [false, false, false, false, false] (L' := [none, none, none, none, none]) rfl ?_
    exact h
  · have h := h.2 c4
    refine EV.iload_n 11 rfl 2 rfl rfl dX8_subsetsOf_10 ?_
    refine EV.bipush 13 rfl dX8_subsetsOf_11 (v := 12) (by decide) ?_
    refine EV.icmp_le 16 24 rfl (by decide) dX8_subsetsOf_13 (fun c5 => ?_) (fun c5 => ?_)
    · have h := h.1 c5
      refine EV.aload_n 25 rfl 0 rfl rfl dX8_subsetsOf_24 ?_
      obtain ⟨w8, h⟩ := h
      refine EV.cV rfl rfl lk_X8_104 rfl (vs := []) (st := []) rfl rfl (Nat.le_of_ble_eq_true rfl) dX8_subsetsOf_25 w8 h (fun v σ6 h => ?_)
      obtain ⟨rfl, h⟩ := h
      show EV Γ MX8_subsetsOf d 28 [some (.ref v0), some (.int v1), some (.int v2), none, none] [] σ6 Q
      refine EV.bipush 30 rfl dX8_subsetsOf_28 (v := 64) (by decide) ?_
      refine EV.newJ 32 rfl (n := 64) ac_long dX8_subsetsOf_30 (by decide) (Nat.le_of_ble_eq_true rfl) (EV.nq (fun q9 σ10 eq9 eσ10 => ?_))
      have h := h q9 σ10 eq9 eσ10
      have w11 : hs σ10 q9 = some (23, 64) := by rw [eσ10]; exact up_same _ _ _
      refine EV.astore_n 33 rfl 3 [some (.ref v0), some (.int v1), some (.int v2), some (.ref q9), none] rfl (by decide) rfl dX8_subsetsOf_32 ?_
      refine EV.iconst 34 rfl dX8_subsetsOf_33 (v := 0) (by decide) ?_
      refine EV.istore 36 rfl [some (.ref v0), some (.int v1), some (.int v2), some (.ref q9), some (.int 0)] (by decide) rfl dX8_subsetsOf_34 ?_
      exact h
    · have h := h.2 c5
      refine EV.mask [false, false, false, false, false] (L' := [none, none, none, none, none]) rfl ?_
      exact h
theorem eX8_subsetsOf {Γ : Gm} {d : Nat} {σ : AH} {Q : Oc → AH → Prop} {v0 : Nat} {v1 : Int32} {v2 : Int32} (h : hs σ v0 = some (6, 17) ∧ CV Γ d MX8_checkMask [.ref v0, .int v1] σ (fun σ1 => ((v2 < (-1) → EV Γ MX8_subsetsOf d 16 [none, none, none, none, none] [] σ1 Q) ∧ (¬ v2 < (-1) → ((v2 ≤ 12 → hs σ1 v0 = some (6, 17) ∧ CV Γ d MX8_checkRoom [.ref v0] σ1 (fun σ6 => ∀ (q9 : Nat) (σ10 : AH), q9 = lo Γ + hc σ6 → σ10 = mk σ6 q9 23 64 → EV Γ MX8_subsetsOf d 36 [some (.ref v0), some (.int v1), some (.int v2), some (.ref q9), some (.int 0)] [] σ10 Q) (fun E σ6 => Q (.inr E) σ6)) ∧ (¬ v2 ≤ 12 → EV Γ MX8_subsetsOf d 16 [none, none, none, none, none] [] σ1 Q))))) (fun E σ1 => Q (.inr E) σ1)) : RUN Γ d MX8_subsetsOf [.ref v0, .int v1, .int v2] σ Q :=
  EV.enter [some (.ref v0), some (.int v1), some (.int v2), none, none] rfl (by decide +kernel) (Nat.le_of_ble_eq_true rfl) rfl (gX8_subsetsOf_0 h)
theorem gX8_subsetsOf_16 {Γ : Gm} {d : Nat} {σ : AH} {Q : Oc → AH → Prop} (h : 6 ≤ d ∧ Q (.inr "java/lang/IllegalArgumentException") (thr σ)) : EV Γ MX8_subsetsOf d 16 [none, none, none, none, none] [] σ Q := by
  obtain ⟨z1, h⟩ := h
  exact EV.throw0 rfl th_X8_97 z1 dX8_subsetsOf_16 dX8_subsetsOf_19 dX8_subsetsOf_20 dX8_subsetsOf_23 h
theorem gX8_subsetsOf_36 {Γ : Gm} {d : Nat} {σ : AH} {Q : Oc → AH → Prop} {v0 : Nat} {v1 : Int32} {v2 : Int32} {v3 : Nat} {v4 : Int32} (h : ((v1 < v4 → EV Γ MX8_subsetsOf d 85 [some (.ref v0), none, none, some (.ref v3), none] [] σ Q) ∧ (¬ v1 < v4 → ((4096 ≤ v4 → EV Γ MX8_subsetsOf d 85 [some (.ref v0), none, none, some (.ref v3), none] [] σ Q) ∧ (¬ 4096 ≤ v4 → (((v4 &&& (v1 ^^^ (-1))) ≠ 0 → EV Γ MX8_subsetsOf d 36 [some (.ref v0), some (.int v1), some (.int v2), some (.ref v3), some (.int (v4 + 1))] [] σ Q) ∧ ((v4 &&& (v1 ^^^ (-1))) = 0 → ((v2 = (-1) → EV Γ MX8_subsetsOf d 73 [some (.ref v0), some (.int v1), some (.int v2), some (.ref v3), some (.int v4)] [] σ Q) ∧ (¬ v2 = (-1) → CI Γ d MJ6_bitCount_0f7a4 [.int v4] σ (fun r6 σ5 => ((r6 ≠ v2 → EV Γ MX8_subsetsOf d 36 [some (.ref v0), some (.int v1), some (.int v2), some (.ref v3), some (.int (v4 + 1))] [] σ5 Q) ∧ (r6 = v2 → EV Γ MX8_subsetsOf d 73 [some (.ref v0), some (.int v1), some (.int v2), some (.ref v3), some (.int v4)] [] σ5 Q))) (fun _ _ => False)))))))))) : EV Γ MX8_subsetsOf d 36 [some (.ref v0), some (.int v1), some (.int v2), some (.ref v3), some (.int v4)] [] σ Q := by
  refine EV.iload 38 rfl rfl dX8_subsetsOf_36 ?_
  refine EV.iload_n 39 rfl 1 rfl rfl dX8_subsetsOf_38 ?_
  refine EV.icmp_gt 42 85 rfl (by decide) dX8_subsetsOf_39 (fun c1 => ?_) (fun c1 => ?_)
  · have h := h.1 c1
    refine EV.mask [true, false, false, true, false] (L' := [some (.ref v0), none, none, some (.ref v3), none]) rfl ?_
    exact h
  · have h := h.2 c1
    refine EV.iload 44 rfl rfl dX8_subsetsOf_42 ?_
    refine EV.sipush 47 rfl dX8_subsetsOf_44 (v := 4096) (by decide) ?_
    refine EV.icmp_ge 50 85 rfl (by decide) dX8_subsetsOf_47 (fun c2 => ?_) (fun c2 => ?_)
    · have h := h.1 c2
      refine EV.mask [true, false, false, true, false] (L' := [some (.ref v0), none, none, some (.ref v3), none]) rfl ?_
      exact h
    · have h := h.2 c2
      refine EV.iload 52 rfl rfl dX8_subsetsOf_50 ?_
      refine EV.iload_n 53 rfl 1 rfl rfl dX8_subsetsOf_52 ?_
      refine EV.iconst 54 rfl dX8_subsetsOf_53 (v := (-1)) (by decide) ?_
      refine EV.ixor 55 rfl dX8_subsetsOf_54 ?_
      refine EV.iand 56 rfl dX8_subsetsOf_55 ?_
      refine EV.if_ne 59 79 rfl (by decide) dX8_subsetsOf_56 (fun c3 => ?_) (fun c3 => ?_)
      · have h := h.1 c3
        refine EV.iinc 82 rfl [some (.ref v0), some (.int v1), some (.int v2), some (.ref v3), some (.int (v4 + 1))] (v := 1) (by decide) (by decide) rfl rfl dX8_subsetsOf_79 ?_
        refine EV.goto 36 (by decide) dX8_subsetsOf_82 ?_
        exact h
      · have h := h.2 c3
        refine EV.iload_n 60 rfl 2 rfl rfl dX8_subsetsOf_59 ?_
        refine EV.iconst 61 rfl dX8_subsetsOf_60 (v := (-1)) (by decide) ?_
        refine EV.icmp_eq 64 73 rfl (by decide) dX8_subsetsOf_61 (fun c4 => ?_) (fun c4 => ?_)
        · have h := h.1 c4
          exact h
        · have h := h.2 c4
          refine EV.iload 66 rfl rfl dX8_subsetsOf_64 ?_
          refine EV.cS rfl lk_X8_148 rfl (vs := [.int v4]) (st := []) rfl rfl (Nat.le_of_ble_eq_true rfl) dX8_subsetsOf_66 h (fun v σ5 h => ?_)
          obtain ⟨r6, rfl, h⟩ := h
          show EV Γ MX8_subsetsOf d 69 [some (.ref v0), some (.int v1), some (.int v2), some (.ref v3), some (.int v4)] [.int r6] σ5 Q
          refine EV.iload_n 70 rfl 2 rfl rfl dX8_subsetsOf_69 ?_
          refine EV.icmp_ne 73 79 rfl (by decide) dX8_subsetsOf_70 (fun c7 => ?_) (fun c7 => ?_)
          · have h := h.1 c7
            refine EV.iinc 82 rfl [some (.ref v0), some (.int v1), some (.int v2), some (.ref v3), some (.int (v4 + 1))] (v := 1) (by decide) (by decide) rfl rfl dX8_subsetsOf_79 ?_
            refine EV.goto 36 (by decide) dX8_subsetsOf_82 ?_
            exact h
          · have h := h.2 c7
            exact h
theorem gX8_subsetsOf_73 {Γ : Gm} {d : Nat} {σ : AH} {Q : Oc → AH → Prop} {v0 : Nat} {v1 : Int32} {v2 : Int32} {v3 : Nat} {v4 : Int32} (h : CV Γ d MX7_put [.ref v3, .int v4] σ (fun σ1 => EV Γ MX8_subsetsOf d 36 [some (.ref v0), some (.int v1), some (.int v2), some (.ref v3), some (.int (v4 + 1))] [] σ1 Q) (fun _ _ => False)) : EV Γ MX8_subsetsOf d 73 [some (.ref v0), some (.int v1), some (.int v2), some (.ref v3), some (.int v4)] [] σ Q := by
  refine EV.aload_n 74 rfl 3 rfl rfl dX8_subsetsOf_73 ?_
  refine EV.iload 76 rfl rfl dX8_subsetsOf_74 ?_
  refine EV.cS rfl lk_X8_165 rfl (vs := [.ref v3, .int v4]) (st := []) rfl rfl (Nat.le_of_ble_eq_true rfl) dX8_subsetsOf_76 h (fun v σ1 h => ?_)
  obtain ⟨rfl, h⟩ := h
  show EV Γ MX8_subsetsOf d 79 [some (.ref v0), some (.int v1), some (.int v2), some (.ref v3), some (.int v4)] [] σ1 Q
  refine EV.iinc 82 rfl [some (.ref v0), some (.int v1), some (.int v2), some (.ref v3), some (.int (v4 + 1))] (v := 1) (by decide) (by decide) rfl rfl dX8_subsetsOf_79 ?_
  refine EV.goto 36 (by decide) dX8_subsetsOf_82 ?_
  exact h
theorem gX8_subsetsOf_85 {Γ : Gm} {d : Nat} {σ : AH} {Q : Oc → AH → Prop} {v0 : Nat} {v3 : Nat} (h : hs σ v0 = some (6, 17) ∧ CI Γ d MX8_addFamily [.ref v0, .ref v3] σ (fun r2 σ1 => Q (.inl (some (.int r2))) σ1) (fun E σ1 => Q (.inr E) σ1)) : EV Γ MX8_subsetsOf d 85 [some (.ref v0), none, none, some (.ref v3), none] [] σ Q := by
  refine EV.aload_n 86 rfl 0 rfl rfl dX8_subsetsOf_85 ?_
  refine EV.aload_n 87 rfl 3 rfl rfl dX8_subsetsOf_86 ?_
  obtain ⟨w3, h⟩ := h
  refine EV.cV rfl rfl lk_X8_120 rfl (vs := [.ref v3]) (st := []) rfl rfl (Nat.le_of_ble_eq_true rfl) dX8_subsetsOf_87 w3 h (fun v σ1 h => ?_)
  obtain ⟨r2, rfl, h⟩ := h
  show EV Γ MX8_subsetsOf d 90 [some (.ref v0), none, none, some (.ref v3), none] [.int r2] σ1 Q
  exact EV.iret rfl dX8_subsetsOf_90 h
theorem gX8_release_0 {Γ : Gm} {d : Nat} {σ : AH} {Q : Oc → AH → Prop} {v0 : Nat} {v1 : Int32} (h : hs σ v0 = some (6, 17) ∧ CR Γ d MX8_familyOf [.ref v0, .int v1] σ (fun r2 σ1 => hs σ1 v0 = some (6, 17) ∧ ∃ t5 : Nat, gr σ1 v0 11 = some t5 ∧ hs σ1 r2 = some (4, 3) ∧ ∃ t8 : Nat, gr σ1 r2 0 = some t8 ∧ hs σ1 t5 = some (3, 8) ∧ CI Γ d MX3_visit [.ref t5, .ref t8, .int (-1)] σ1 (fun r11 σ10 => hs σ10 v0 = some (6, 17) ∧ ∃ t14 : Nat, gr σ10 v0 5 = some t14 ∧ ∃ n17 : Nat, hs σ10 t14 = some (25, n17) ∧ ∃ j18 : Nat, IX v1 n17 j18 ∧ ∀ σ20 : AH, σ20 = setR σ10 t14 j18 none → ∀ σ24 : AH, σ24 = setI σ20 v0 7 ((gi σ20 v0 7) - 1) → Q (.inl (some (.int (gi σ24 v0 7)))) σ24) (fun E σ10 => Q (.inr E) σ10)) (fun E σ1 => Q (.inr E) σ1)) : EV Γ MX8_release d 0 [some (.ref v0), some (.int v1), none] [] σ Q := by
  refine EV.aload_n 1 rfl 0 rfl rfl dX8_release_0 ?_
  refine EV.iload_n 2 rfl 1 rfl rfl dX8_release_1 ?_
  obtain ⟨w3, h⟩ := h
  refine EV.cV rfl rfl lk_X8_124 rfl (vs := [.int v1]) (st := []) rfl rfl (Nat.le_of_ble_eq_true rfl) dX8_release_2 w3 h (fun v σ1 h => ?_)
  obtain ⟨r2, rfl, h⟩ := h
  show EV Γ MX8_release d 5 [some (.ref v0), some (.int v1), none] [.ref r2] σ1 Q
  refine EV.astore_n 6 rfl 2 [some (.ref v0), some (.int v1), some (.ref r2)] rfl (by decide) rfl dX8_release_5 ?_
  refine EV.aload_n 7 rfl 0 rfl rfl dX8_release_6 ?_
  obtain ⟨w4, h⟩ := h
  obtain ⟨t5, g6, h⟩ := h
  refine EV.getR 10 rfl fl_X8_59 rfl dX8_release_7 w4 g6 ?_
  refine EV.aload_n 11 rfl 2 rfl rfl dX8_release_10 ?_
  obtain ⟨w7, h⟩ := h
  obtain ⟨t8, g9, h⟩ := h
  refine EV.getR 14 rfl fl_X8_128 rfl dX8_release_11 w7 g9 ?_
  refine EV.iconst 15 rfl dX8_release_14 (v := (-1)) (by decide) ?_
  obtain ⟨w12, h⟩ := h
  refine EV.cV rfl rfl lk_X8_169 rfl (vs := [.ref t8, .int (-1)]) (st := []) rfl rfl (Nat.le_of_ble_eq_true rfl) dX8_release_15 w12 h (fun v σ10 h => ?_)
  obtain ⟨r11, rfl, h⟩ := h
  show EV Γ MX8_release d 18 [some (.ref v0), some (.int v1), some (.ref r2)] [.int r11] σ10 Q
  refine EV.pop 19 rfl dX8_release_18 rfl ?_
  refine EV.aload_n 20 rfl 0 rfl rfl dX8_release_19 ?_
  obtain ⟨w13, h⟩ := h
  obtain ⟨t14, g15, h⟩ := h
  refine EV.getR 23 rfl fl_X8_28 rfl dX8_release_20 w13 g15 ?_
  refine EV.iload_n 24 rfl 1 rfl rfl dX8_release_23 ?_
  refine EV.aconst_null 25 rfl dX8_release_24 ?_
  obtain ⟨n17, w16, h⟩ := h
  obtain ⟨j18, x19, h⟩ := h
  refine EV.aastN 26 rfl dX8_release_25 w16 x19 (EV.nm (fun σ20 e21 => ?_))
  have h := h σ20 e21
  have w22 := tr_hs (hs_setR_of e21) w13
  have w23 := tr_hs (hs_setR_of e21) w16
  refine EV.aload_n 27 rfl 0 rfl rfl dX8_release_26 ?_
  refine EV.dup 28 rfl dX8_release_27 rfl ?_
  refine EV.getI 31 rfl fl_X8_35 rfl dX8_release_28 w22 ?_
  refine EV.iconst 32 rfl dX8_release_31 (v := 1) (by decide) ?_
  refine EV.isub 33 rfl dX8_release_32 ?_
  refine EV.putI 36 rfl fw_X8_35 rfl (by decide) dX8_release_33 w22 (EV.nm (fun σ24 e25 => ?_))
  have h := h σ24 e25
  have w26 := tr_hs (hs_setI_of e25) w22
  have w27 := tr_hs (hs_setI_of e25) w23
  refine EV.aload_n 37 rfl 0 rfl rfl dX8_release_36 ?_
  refine EV.getI 40 rfl fl_X8_35 rfl dX8_release_37 w26 ?_
  exact EV.iret rfl dX8_release_40 h
theorem eX8_release {Γ : Gm} {d : Nat} {σ : AH} {Q : Oc → AH → Prop} {v0 : Nat} {v1 : Int32} (h : hs σ v0 = some (6, 17) ∧ CR Γ d MX8_familyOf [.ref v0, .int v1] σ (fun r2 σ1 => hs σ1 v0 = some (6, 17) ∧ ∃ t5 : Nat, gr σ1 v0 11 = some t5 ∧ hs σ1 r2 = some (4, 3) ∧ ∃ t8 : Nat, gr σ1 r2 0 = some t8 ∧ hs σ1 t5 = some (3, 8) ∧ CI Γ d MX3_visit [.ref t5, .ref t8, .int (-1)] σ1 (fun r11 σ10 => hs σ10 v0 = some (6, 17) ∧ ∃ t14 : Nat, gr σ10 v0 5 = some t14 ∧ ∃ n17 : Nat, hs σ10 t14 = some (25, n17) ∧ ∃ j18 : Nat, IX v1 n17 j18 ∧ ∀ σ20 : AH, σ20 = setR σ10 t14 j18 none → ∀ σ24 : AH, σ24 = setI σ20 v0 7 ((gi σ20 v0 7) - 1) → Q (.inl (some (.int (gi σ24 v0 7)))) σ24) (fun E σ10 => Q (.inr E) σ10)) (fun E σ1 => Q (.inr E) σ1)) : RUN Γ d MX8_release [.ref v0, .int v1] σ Q :=
  EV.enter [some (.ref v0), some (.int v1), none] rfl (by decide +kernel) (Nat.le_of_ble_eq_true rfl) rfl (gX8_release_0 h)
theorem gX8_checkMask_0 {Γ : Gm} {d : Nat} {σ : AH} {Q : Oc → AH → Prop} {v0 : Nat} {v1 : Int32} (h : ((v1 < 0 → EV Γ MX8_checkMask d 11 [none, none] [] σ Q) ∧ (¬ v1 < 0 → ((v1 < 4096 → Q (.inl none) σ) ∧ (¬ v1 < 4096 → EV Γ MX8_checkMask d 11 [none, none] [] σ Q))))) : EV Γ MX8_checkMask d 0 [some (.ref v0), some (.int v1)] [] σ Q := by
  refine EV.iload_n 1 rfl 1 rfl rfl dX8_checkMask_0 ?_
  refine EV.if_lt 4 11 rfl (by decide) dX8_checkMask_1 (fun c1 => ?_) (fun c1 => ?_)
  · have h := h.1 c1
    refine EV.mask [false, false] (L' := [none, none]) rfl ?_
    exact h
  · have h := h.2 c1
    refine EV.iload_n 5 rfl 1 rfl rfl dX8_checkMask_4 ?_
    refine EV.sipush 8 rfl dX8_checkMask_5 (v := 4096) (by decide) ?_
    refine EV.icmp_lt 11 19 rfl (by decide) dX8_checkMask_8 (fun c2 => ?_) (fun c2 => ?_)
    · have h := h.1 c2
      exact EV.vret rfl dX8_checkMask_19 h
    · have h := h.2 c2
      refine EV.mask [false, false] (L' := [none, none]) rfl ?_
      exact h
theorem eX8_checkMask {Γ : Gm} {d : Nat} {σ : AH} {Q : Oc → AH → Prop} {v0 : Nat} {v1 : Int32} (h : ((v1 < 0 → EV Γ MX8_checkMask d 11 [none, none] [] σ Q) ∧ (¬ v1 < 0 → ((v1 < 4096 → Q (.inl none) σ) ∧ (¬ v1 < 4096 → EV Γ MX8_checkMask d 11 [none, none] [] σ Q))))) : RUN Γ d MX8_checkMask [.ref v0, .int v1] σ Q :=
  EV.enter [some (.ref v0), some (.int v1)] rfl (by decide +kernel) (Nat.le_of_ble_eq_true rfl) rfl (gX8_checkMask_0 h)
theorem gX8_checkMask_11 {Γ : Gm} {d : Nat} {σ : AH} {Q : Oc → AH → Prop} (h : 6 ≤ d ∧ Q (.inr "java/lang/IllegalArgumentException") (thr σ)) : EV Γ MX8_checkMask d 11 [none, none] [] σ Q := by
  obtain ⟨z1, h⟩ := h
  exact EV.throw0 rfl th_X8_97 z1 dX8_checkMask_11 dX8_checkMask_14 dX8_checkMask_15 dX8_checkMask_18 h
theorem gX8_checkCreated_0 {Γ : Gm} {d : Nat} {σ : AH} {Q : Oc → AH → Prop} {v0 : Nat} {v1 : Int32} (h : ((v1 < 0 → EV Γ MX8_checkCreated d 19 [none, none] [] σ Q) ∧ (¬ v1 < 0 → hs σ v0 = some (6, 17) ∧ (((gi σ v0 6) ≤ v1 → EV Γ MX8_checkCreated d 19 [none, none] [] σ Q) ∧ (¬ (gi σ v0 6) ≤ v1 → ((v1 < 200 → Q (.inl none) σ) ∧ (¬ v1 < 200 → EV Γ MX8_checkCreated d 19 [none, none] [] σ Q))))))) : EV Γ MX8_checkCreated d 0 [some (.ref v0), some (.int v1)] [] σ Q := by
  refine EV.iload_n 1 rfl 1 rfl rfl dX8_checkCreated_0 ?_
  refine EV.if_lt 4 19 rfl (by decide) dX8_checkCreated_1 (fun c1 => ?_) (fun c1 => ?_)
  · have h := h.1 c1
    refine EV.mask [false, false] (L' := [none, none]) rfl ?_
    exact h
  · have h := h.2 c1
    refine EV.iload_n 5 rfl 1 rfl rfl dX8_checkCreated_4 ?_
    refine EV.aload_n 6 rfl 0 rfl rfl dX8_checkCreated_5 ?_
    obtain ⟨w2, h⟩ := h
    refine EV.getI 9 rfl fl_X8_32 rfl dX8_checkCreated_6 w2 ?_
    refine EV.icmp_ge 12 19 rfl (by decide) dX8_checkCreated_9 (fun c3 => ?_) (fun c3 => ?_)
    · have h := h.1 c3
      refine EV.mask [false, false] (L' := [none, none]) rfl ?_
      exact h
    · have h := h.2 c3
      refine EV.iload_n 13 rfl 1 rfl rfl dX8_checkCreated_12 ?_
      refine EV.sipush 16 rfl dX8_checkCreated_13 (v := 200) (by decide) ?_
      refine EV.icmp_lt 19 27 rfl (by decide) dX8_checkCreated_16 (fun c4 => ?_) (fun c4 => ?_)
      · have h := h.1 c4
        exact EV.vret rfl dX8_checkCreated_27 h
      · have h := h.2 c4
        refine EV.mask [false, false] (L' := [none, none]) rfl ?_
        exact h
theorem eX8_checkCreated {Γ : Gm} {d : Nat} {σ : AH} {Q : Oc → AH → Prop} {v0 : Nat} {v1 : Int32} (h : ((v1 < 0 → EV Γ MX8_checkCreated d 19 [none, none] [] σ Q) ∧ (¬ v1 < 0 → hs σ v0 = some (6, 17) ∧ (((gi σ v0 6) ≤ v1 → EV Γ MX8_checkCreated d 19 [none, none] [] σ Q) ∧ (¬ (gi σ v0 6) ≤ v1 → ((v1 < 200 → Q (.inl none) σ) ∧ (¬ v1 < 200 → EV Γ MX8_checkCreated d 19 [none, none] [] σ Q))))))) : RUN Γ d MX8_checkCreated [.ref v0, .int v1] σ Q :=
  EV.enter [some (.ref v0), some (.int v1)] rfl (by decide +kernel) (Nat.le_of_ble_eq_true rfl) rfl (gX8_checkCreated_0 h)
theorem gX8_checkCreated_19 {Γ : Gm} {d : Nat} {σ : AH} {Q : Oc → AH → Prop} (h : 6 ≤ d ∧ Q (.inr "java/lang/IndexOutOfBoundsException") (thr σ)) : EV Γ MX8_checkCreated d 19 [none, none] [] σ Q := by
  obtain ⟨z1, h⟩ := h
  exact EV.throw0 rfl th_X8_159 z1 dX8_checkCreated_19 dX8_checkCreated_22 dX8_checkCreated_23 dX8_checkCreated_26 h
theorem gX8_checkRoom_0 {Γ : Gm} {d : Nat} {σ : AH} {Q : Oc → AH → Prop} {v0 : Nat} (h : hs σ v0 = some (6, 17) ∧ (((gi σ v0 6) < 200 → Q (.inl none) σ) ∧ (¬ (gi σ v0 6) < 200 → 6 ≤ d ∧ Q (.inr "java/lang/IllegalStateException") (thr σ)))) : EV Γ MX8_checkRoom d 0 [some (.ref v0)] [] σ Q := by
  refine EV.aload_n 1 rfl 0 rfl rfl dX8_checkRoom_0 ?_
  obtain ⟨w1, h⟩ := h
  refine EV.getI 4 rfl fl_X8_32 rfl dX8_checkRoom_1 w1 ?_
  refine EV.sipush 7 rfl dX8_checkRoom_4 (v := 200) (by decide) ?_
  refine EV.icmp_lt 10 18 rfl (by decide) dX8_checkRoom_7 (fun c2 => ?_) (fun c2 => ?_)
  · have h := h.1 c2
    exact EV.vret rfl dX8_checkRoom_18 h
  · have h := h.2 c2
    obtain ⟨z3, h⟩ := h
    exact EV.throw0 rfl th_X8_90 z3 dX8_checkRoom_10 dX8_checkRoom_13 dX8_checkRoom_14 dX8_checkRoom_17 h
theorem eX8_checkRoom {Γ : Gm} {d : Nat} {σ : AH} {Q : Oc → AH → Prop} {v0 : Nat} (h : hs σ v0 = some (6, 17) ∧ (((gi σ v0 6) < 200 → Q (.inl none) σ) ∧ (¬ (gi σ v0 6) < 200 → 6 ≤ d ∧ Q (.inr "java/lang/IllegalStateException") (thr σ)))) : RUN Γ d MX8_checkRoom [.ref v0] σ Q :=
  EV.enter [some (.ref v0)] rfl (by decide +kernel) (Nat.le_of_ble_eq_true rfl) rfl (gX8_checkRoom_0 h)
theorem gX8_familyOf_0 {Γ : Gm} {d : Nat} {σ : AH} {Q : Oc → AH → Prop} {v0 : Nat} {v1 : Int32} (h : hs σ v0 = some (6, 17) ∧ CV Γ d MX8_checkCreated [.ref v0, .int v1] σ (fun σ1 => hs σ1 v0 = some (6, 17) ∧ ∃ t5 : Nat, gr σ1 v0 5 = some t5 ∧ ∃ n8 : Nat, hs σ1 t5 = some (25, n8) ∧ ∃ j9 : Nat, IX v1 n8 j9 ∧ ((gr σ1 t5 j9 = none → 6 ≤ d ∧ Q (.inr "java/util/NoSuchElementException") (thr σ1)) ∧ (∀ t11 : Nat, gr σ1 t5 j9 = some t11 → Q (.inl (some (.ref t11))) σ1))) (fun E σ1 => Q (.inr E) σ1)) : EV Γ MX8_familyOf d 0 [some (.ref v0), some (.int v1), none] [] σ Q := by
  refine EV.aload_n 1 rfl 0 rfl rfl dX8_familyOf_0 ?_
  refine EV.iload_n 2 rfl 1 rfl rfl dX8_familyOf_1 ?_
  obtain ⟨w3, h⟩ := h
  refine EV.cV rfl rfl lk_X8_179 rfl (vs := [.int v1]) (st := []) rfl rfl (Nat.le_of_ble_eq_true rfl) dX8_familyOf_2 w3 h (fun v σ1 h => ?_)
  obtain ⟨rfl, h⟩ := h
  show EV Γ MX8_familyOf d 5 [some (.ref v0), some (.int v1), none] [] σ1 Q
  refine EV.aload_n 6 rfl 0 rfl rfl dX8_familyOf_5 ?_
  obtain ⟨w4, h⟩ := h
  obtain ⟨t5, g6, h⟩ := h
  refine EV.getR 9 rfl fl_X8_28 rfl dX8_familyOf_6 w4 g6 ?_
  refine EV.iload_n 10 rfl 1 rfl rfl dX8_familyOf_9 ?_
  obtain ⟨n8, w7, h⟩ := h
  obtain ⟨j9, x10, h⟩ := h
  refine EV.aaldF 11 rfl dX8_familyOf_10 w7 x10 ?_
  rcases g12 : gr σ1 t5 j9 with _ | t11
  · have h := h.1 g12
    show EV Γ MX8_familyOf d 11 [some (.ref v0), some (.int v1), none] [.null] σ1 Q
    refine EV.astore_nQ 12 rfl 2 [some (.ref v0), some (.int v1), some (.null)] (r := none) rfl (by decide) rfl dX8_familyOf_11 ?_
    refine EV.aload_nQ 13 rfl 2 (r := none) rfl rfl dX8_familyOf_12 ?_
    refine EV.ifnonnull 16 24 rfl (r := none) (by decide) dX8_familyOf_13 (fun _ hh => by cases hh) (fun _ => ?_)
    obtain ⟨z13, h⟩ := h
    exact EV.throw0 rfl th_X8_182 z13 dX8_familyOf_16 dX8_familyOf_19 dX8_familyOf_20 dX8_familyOf_23 h
  · have h := h.2 t11 g12
    show EV Γ MX8_familyOf d 11 [some (.ref v0), some (.int v1), none] [.ref t11] σ1 Q
    refine EV.astore_n 12 rfl 2 [some (.ref v0), some (.int v1), some (.ref t11)] rfl (by decide) rfl dX8_familyOf_11 ?_
    refine EV.aload_n 13 rfl 2 rfl rfl dX8_familyOf_12 ?_
    refine EV.ifnonnull 16 24 rfl (r := some t11) (by decide) dX8_familyOf_13 (fun _ _ => ?_) (fun hh => by cases hh)
    refine EV.aload_n 25 rfl 2 rfl rfl dX8_familyOf_24 ?_
    exact EV.aret rfl (Or.inl ⟨_, rfl⟩) dX8_familyOf_25 h
theorem eX8_familyOf {Γ : Gm} {d : Nat} {σ : AH} {Q : Oc → AH → Prop} {v0 : Nat} {v1 : Int32} (h : hs σ v0 = some (6, 17) ∧ CV Γ d MX8_checkCreated [.ref v0, .int v1] σ (fun σ1 => hs σ1 v0 = some (6, 17) ∧ ∃ t5 : Nat, gr σ1 v0 5 = some t5 ∧ ∃ n8 : Nat, hs σ1 t5 = some (25, n8) ∧ ∃ j9 : Nat, IX v1 n8 j9 ∧ ((gr σ1 t5 j9 = none → 6 ≤ d ∧ Q (.inr "java/util/NoSuchElementException") (thr σ1)) ∧ (∀ t11 : Nat, gr σ1 t5 j9 = some t11 → Q (.inl (some (.ref t11))) σ1))) (fun E σ1 => Q (.inr E) σ1)) : RUN Γ d MX8_familyOf [.ref v0, .int v1] σ Q :=
  EV.enter [some (.ref v0), some (.int v1), none] rfl (by decide +kernel) (Nat.le_of_ble_eq_true rfl) rfl (gX8_familyOf_0 h)
theorem gX8_addFamily_0 {Γ : Gm} {d : Nat} {σ : AH} {Q : Oc → AH → Prop} {v0 : Nat} {v1 : Nat} (h : hs σ v0 = some (6, 17) ∧ CV Γ d MX8_checkRoom [.ref v0] σ (fun σ1 => hs σ1 v0 = some (6, 17) ∧ ∃ t5 : Nat, gr σ1 v0 5 = some t5 ∧ ∀ (q7 : Nat) (σ8 : AH), q7 = lo Γ + hc σ1 → σ8 = mk σ1 q7 4 3 → CI Γ d MX7_size [.ref v1] σ8 (fun r11 σ10 => hs σ10 v0 = some (6, 17) ∧ ∃ t13 : Nat, gr σ10 v0 11 = some t13 ∧ hs σ10 t13 = some (3, 8) ∧ CI Γ d MX3_visit [.ref t13, .ref v1, .int 1] σ10 (fun r16 σ15 => CV Γ d MX4_init [.ref q7, .ref v1, .int r11, .int r16] σ15 (fun σ18 => ∃ n21 : Nat, hs σ18 t5 = some (25, n21) ∧ ∃ j22 : Nat, IX (gi σ1 v0 6) n21 j22 ∧ hs σ18 q7 = some (4, 3) ∧ ∀ σ25 : AH, σ25 = setR σ18 t5 j22 (some q7) → hs σ25 v0 = some (6, 17) ∧ ∀ σ30 : AH, σ30 = setI σ25 v0 6 ((gi σ25 v0 6) + 1) → ∀ σ35 : AH, σ35 = setI σ30 v0 7 ((gi σ30 v0 7) + 1) → Q (.inl (some (.int ((gi σ35 v0 6) - 1)))) σ35) (fun _ _ => False)) (fun E σ15 => Q (.inr E) σ15)) (fun _ _ => False)) (fun E σ1 => Q (.inr E) σ1)) : EV Γ MX8_addFamily d 0 [some (.ref v0), some (.ref v1)] [] σ Q := by
  refine EV.aload_n 1 rfl 0 rfl rfl dX8_addFamily_0 ?_
  obtain ⟨w3, h⟩ := h
  refine EV.cV rfl rfl lk_X8_104 rfl (vs := []) (st := []) rfl rfl (Nat.le_of_ble_eq_true rfl) dX8_addFamily_1 w3 h (fun v σ1 h => ?_)
  obtain ⟨rfl, h⟩ := h
  show EV Γ MX8_addFamily d 4 [some (.ref v0), some (.ref v1)] [] σ1 Q
  refine EV.aload_n 5 rfl 0 rfl rfl dX8_addFamily_4 ?_
  obtain ⟨w4, h⟩ := h
  obtain ⟨t5, g6, h⟩ := h
  refine EV.getR 8 rfl fl_X8_28 rfl dX8_addFamily_5 w4 g6 ?_
  refine EV.aload_n 9 rfl 0 rfl rfl dX8_addFamily_8 ?_
  refine EV.getI 12 rfl fl_X8_32 rfl dX8_addFamily_9 w4 ?_
  refine EV.new 15 rfl nl_X8_26 (n := 3) rfl dX8_addFamily_12 (EV.nq (fun q7 σ8 eq7 eσ8 => ?_))
  have h := h q7 σ8 eq7 eσ8
  have w9 : hs σ8 q7 = some (4, 3) := by rw [eσ8]; exact up_same _ _ _
  refine EV.dup 16 rfl dX8_addFamily_15 rfl ?_
  refine EV.aload_n 17 rfl 1 rfl rfl dX8_addFamily_16 ?_
  refine EV.aload_n 18 rfl 1 rfl rfl dX8_addFamily_17 ?_
  refine EV.cS rfl lk_X8_188 rfl (vs := [.ref v1]) (st := [.ref v1, .ref q7, .ref q7, .int (gi σ1 v0 6), .ref t5]) rfl rfl (Nat.le_of_ble_eq_true rfl) dX8_addFamily_18 h (fun v σ10 h => ?_)
  obtain ⟨r11, rfl, h⟩ := h
  show EV Γ MX8_addFamily d 21 [some (.ref v0), some (.ref v1)] [.int r11, .ref v1, .ref q7, .ref q7, .int (gi σ1 v0 6), .ref t5] σ10 Q
  refine EV.aload_n 22 rfl 0 rfl rfl dX8_addFamily_21 ?_
  obtain ⟨w12, h⟩ := h
  obtain ⟨t13, g14, h⟩ := h
  refine EV.getR 25 rfl fl_X8_59 rfl dX8_addFamily_22 w12 g14 ?_
  refine EV.aload_n 26 rfl 1 rfl rfl dX8_addFamily_25 ?_
  refine EV.iconst 27 rfl dX8_addFamily_26 (v := 1) (by decide) ?_
  obtain ⟨w17, h⟩ := h
  refine EV.cV rfl rfl lk_X8_169 rfl (vs := [.ref v1, .int 1]) (st := [.int r11, .ref v1, .ref q7, .ref q7, .int (gi σ1 v0 6), .ref t5]) rfl rfl (Nat.le_of_ble_eq_true rfl) dX8_addFamily_27 w17 h (fun v σ15 h => ?_)
  obtain ⟨r16, rfl, h⟩ := h
  show EV Γ MX8_addFamily d 30 [some (.ref v0), some (.ref v1)] [.int r16, .int r11, .ref v1, .ref q7, .ref q7, .int (gi σ1 v0 6), .ref t5] σ15 Q
  refine EV.cI rfl lk_X8_191 rfl rfl (vs := [.ref v1, .int r11, .int r16]) (st := [.ref q7, .int (gi σ1 v0 6), .ref t5]) rfl rfl (Nat.le_of_ble_eq_true rfl) dX8_addFamily_30 h (fun  σ18 h => ?_)
  obtain ⟨n21, w20, h⟩ := h
  obtain ⟨j22, x23, h⟩ := h
  obtain ⟨w24, h⟩ := h
  refine EV.aastF 34 rfl dX8_addFamily_33 w20 x23 w24 (EV.nm (fun σ25 e26 => ?_))
  have h := h σ25 e26
  have w27 := tr_hs (hs_setR_of e26) w20
  have w28 := tr_hs (hs_setR_of e26) w24
  refine EV.aload_n 35 rfl 0 rfl rfl dX8_addFamily_34 ?_
  refine EV.dup 36 rfl dX8_addFamily_35 rfl ?_
  obtain ⟨w29, h⟩ := h
  refine EV.getI 39 rfl fl_X8_32 rfl dX8_addFamily_36 w29 ?_
  refine EV.iconst 40 rfl dX8_addFamily_39 (v := 1) (by decide) ?_
  refine EV.iadd 41 rfl dX8_addFamily_40 ?_
  refine EV.putI 44 rfl fw_X8_32 rfl (by decide) dX8_addFamily_41 w29 (EV.nm (fun σ30 e31 => ?_))
  have h := h σ30 e31
  have w32 := tr_hs (hs_setI_of e31) w27
  have w33 := tr_hs (hs_setI_of e31) w28
  have w34 := tr_hs (hs_setI_of e31) w29
  refine EV.aload_n 45 rfl 0 rfl rfl dX8_addFamily_44 ?_
  refine EV.dup 46 rfl dX8_addFamily_45 rfl ?_
  refine EV.getI 49 rfl fl_X8_35 rfl dX8_addFamily_46 w34 ?_
  refine EV.iconst 50 rfl dX8_addFamily_49 (v := 1) (by decide) ?_
  refine EV.iadd 51 rfl dX8_addFamily_50 ?_
  refine EV.putI 54 rfl fw_X8_35 rfl (by decide) dX8_addFamily_51 w34 (EV.nm (fun σ35 e36 => ?_))
  have h := h σ35 e36
  have w37 := tr_hs (hs_setI_of e36) w32
  have w38 := tr_hs (hs_setI_of e36) w33
  have w39 := tr_hs (hs_setI_of e36) w34
  refine EV.aload_n 55 rfl 0 rfl rfl dX8_addFamily_54 ?_
  refine EV.getI 58 rfl fl_X8_32 rfl dX8_addFamily_55 w39 ?_
  refine EV.iconst 59 rfl dX8_addFamily_58 (v := 1) (by decide) ?_
  refine EV.isub 60 rfl dX8_addFamily_59 ?_
  exact EV.iret rfl dX8_addFamily_60 h
theorem eX8_addFamily {Γ : Gm} {d : Nat} {σ : AH} {Q : Oc → AH → Prop} {v0 : Nat} {v1 : Nat} (h : hs σ v0 = some (6, 17) ∧ CV Γ d MX8_checkRoom [.ref v0] σ (fun σ1 => hs σ1 v0 = some (6, 17) ∧ ∃ t5 : Nat, gr σ1 v0 5 = some t5 ∧ ∀ (q7 : Nat) (σ8 : AH), q7 = lo Γ + hc σ1 → σ8 = mk σ1 q7 4 3 → CI Γ d MX7_size [.ref v1] σ8 (fun r11 σ10 => hs σ10 v0 = some (6, 17) ∧ ∃ t13 : Nat, gr σ10 v0 11 = some t13 ∧ hs σ10 t13 = some (3, 8) ∧ CI Γ d MX3_visit [.ref t13, .ref v1, .int 1] σ10 (fun r16 σ15 => CV Γ d MX4_init [.ref q7, .ref v1, .int r11, .int r16] σ15 (fun σ18 => ∃ n21 : Nat, hs σ18 t5 = some (25, n21) ∧ ∃ j22 : Nat, IX (gi σ1 v0 6) n21 j22 ∧ hs σ18 q7 = some (4, 3) ∧ ∀ σ25 : AH, σ25 = setR σ18 t5 j22 (some q7) → hs σ25 v0 = some (6, 17) ∧ ∀ σ30 : AH, σ30 = setI σ25 v0 6 ((gi σ25 v0 6) + 1) → ∀ σ35 : AH, σ35 = setI σ30 v0 7 ((gi σ30 v0 7) + 1) → Q (.inl (some (.int ((gi σ35 v0 6) - 1)))) σ35) (fun _ _ => False)) (fun E σ15 => Q (.inr E) σ15)) (fun _ _ => False)) (fun E σ1 => Q (.inr E) σ1)) : RUN Γ d MX8_addFamily [.ref v0, .ref v1] σ Q :=
  EV.enter [some (.ref v0), some (.ref v1)] rfl (by decide +kernel) (Nat.le_of_ble_eq_true rfl) rfl (gX8_addFamily_0 h)
theorem gX8_union_0 {Γ : Gm} {d : Nat} {σ : AH} {Q : Oc → AH → Prop} {v0 : Nat} {v1 : Int32} {v2 : Int32} (h : hs σ v0 = some (6, 17) ∧ CI Γ d MX8_addOfTwo [.ref v0, .int v1, .int v2, .int 43] σ (fun r2 σ1 => Q (.inl (some (.int r2))) σ1) (fun E σ1 => Q (.inr E) σ1)) : EV Γ MX8_union d 0 [some (.ref v0), some (.int v1), some (.int v2)] [] σ Q := by
  refine EV.aload_n 1 rfl 0 rfl rfl dX8_union_0 ?_
  refine EV.iload_n 2 rfl 1 rfl rfl dX8_union_1 ?_
  refine EV.iload_n 3 rfl 2 rfl rfl dX8_union_2 ?_
  refine EV.bipush 5 rfl dX8_union_3 (v := 43) (by decide) ?_
  obtain ⟨w3, h⟩ := h
  refine EV.cV rfl rfl lk_X8_194 rfl (vs := [.int v1, .int v2, .int 43]) (st := []) rfl rfl (Nat.le_of_ble_eq_true rfl) dX8_union_5 w3 h (fun v σ1 h => ?_)
  obtain ⟨r2, rfl, h⟩ := h
  show EV Γ MX8_union d 8 [some (.ref v0), some (.int v1), some (.int v2)] [.int r2] σ1 Q
  exact EV.iret rfl dX8_union_8 h
theorem eX8_union {Γ : Gm} {d : Nat} {σ : AH} {Q : Oc → AH → Prop} {v0 : Nat} {v1 : Int32} {v2 : Int32} (h : hs σ v0 = some (6, 17) ∧ CI Γ d MX8_addOfTwo [.ref v0, .int v1, .int v2, .int 43] σ (fun r2 σ1 => Q (.inl (some (.int r2))) σ1) (fun E σ1 => Q (.inr E) σ1)) : RUN Γ d MX8_union [.ref v0, .int v1, .int v2] σ Q :=
  EV.enter [some (.ref v0), some (.int v1), some (.int v2)] rfl (by decide +kernel) (Nat.le_of_ble_eq_true rfl) rfl (gX8_union_0 h)
theorem gX8_intersection_0 {Γ : Gm} {d : Nat} {σ : AH} {Q : Oc → AH → Prop} {v0 : Nat} {v1 : Int32} {v2 : Int32} (h : hs σ v0 = some (6, 17) ∧ CI Γ d MX8_addOfTwo [.ref v0, .int v1, .int v2, .int 38] σ (fun r2 σ1 => Q (.inl (some (.int r2))) σ1) (fun E σ1 => Q (.inr E) σ1)) : EV Γ MX8_intersection d 0 [some (.ref v0), some (.int v1), some (.int v2)] [] σ Q := by
  refine EV.aload_n 1 rfl 0 rfl rfl dX8_intersection_0 ?_
  refine EV.iload_n 2 rfl 1 rfl rfl dX8_intersection_1 ?_
  refine EV.iload_n 3 rfl 2 rfl rfl dX8_intersection_2 ?_
  refine EV.bipush 5 rfl dX8_intersection_3 (v := 38) (by decide) ?_
  obtain ⟨w3, h⟩ := h
  refine EV.cV rfl rfl lk_X8_194 rfl (vs := [.int v1, .int v2, .int 38]) (st := []) rfl rfl (Nat.le_of_ble_eq_true rfl) dX8_intersection_5 w3 h (fun v σ1 h => ?_)
  obtain ⟨r2, rfl, h⟩ := h
  show EV Γ MX8_intersection d 8 [some (.ref v0), some (.int v1), some (.int v2)] [.int r2] σ1 Q
  exact EV.iret rfl dX8_intersection_8 h
theorem eX8_intersection {Γ : Gm} {d : Nat} {σ : AH} {Q : Oc → AH → Prop} {v0 : Nat} {v1 : Int32} {v2 : Int32} (h : hs σ v0 = some (6, 17) ∧ CI Γ d MX8_addOfTwo [.ref v0, .int v1, .int v2, .int 38] σ (fun r2 σ1 => Q (.inl (some (.int r2))) σ1) (fun E σ1 => Q (.inr E) σ1)) : RUN Γ d MX8_intersection [.ref v0, .int v1, .int v2] σ Q :=
  EV.enter [some (.ref v0), some (.int v1), some (.int v2)] rfl (by decide +kernel) (Nat.le_of_ble_eq_true rfl) rfl (gX8_intersection_0 h)
theorem gX8_difference_0 {Γ : Gm} {d : Nat} {σ : AH} {Q : Oc → AH → Prop} {v0 : Nat} {v1 : Int32} {v2 : Int32} (h : hs σ v0 = some (6, 17) ∧ CI Γ d MX8_addOfTwo [.ref v0, .int v1, .int v2, .int 45] σ (fun r2 σ1 => Q (.inl (some (.int r2))) σ1) (fun E σ1 => Q (.inr E) σ1)) : EV Γ MX8_difference d 0 [some (.ref v0), some (.int v1), some (.int v2)] [] σ Q := by
  refine EV.aload_n 1 rfl 0 rfl rfl dX8_difference_0 ?_
  refine EV.iload_n 2 rfl 1 rfl rfl dX8_difference_1 ?_
  refine EV.iload_n 3 rfl 2 rfl rfl dX8_difference_2 ?_
  refine EV.bipush 5 rfl dX8_difference_3 (v := 45) (by decide) ?_
  obtain ⟨w3, h⟩ := h
  refine EV.cV rfl rfl lk_X8_194 rfl (vs := [.int v1, .int v2, .int 45]) (st := []) rfl rfl (Nat.le_of_ble_eq_true rfl) dX8_difference_5 w3 h (fun v σ1 h => ?_)
  obtain ⟨r2, rfl, h⟩ := h
  show EV Γ MX8_difference d 8 [some (.ref v0), some (.int v1), some (.int v2)] [.int r2] σ1 Q
  exact EV.iret rfl dX8_difference_8 h
theorem eX8_difference {Γ : Gm} {d : Nat} {σ : AH} {Q : Oc → AH → Prop} {v0 : Nat} {v1 : Int32} {v2 : Int32} (h : hs σ v0 = some (6, 17) ∧ CI Γ d MX8_addOfTwo [.ref v0, .int v1, .int v2, .int 45] σ (fun r2 σ1 => Q (.inl (some (.int r2))) σ1) (fun E σ1 => Q (.inr E) σ1)) : RUN Γ d MX8_difference [.ref v0, .int v1, .int v2] σ Q :=
  EV.enter [some (.ref v0), some (.int v1), some (.int v2)] rfl (by decide +kernel) (Nat.le_of_ble_eq_true rfl) rfl (gX8_difference_0 h)
theorem gX8_join_0 {Γ : Gm} {d : Nat} {σ : AH} {Q : Oc → AH → Prop} {v0 : Nat} {v1 : Int32} {v2 : Int32} (h : hs σ v0 = some (6, 17) ∧ CI Γ d MX8_addOfTwo [.ref v0, .int v1, .int v2, .int 42] σ (fun r2 σ1 => Q (.inl (some (.int r2))) σ1) (fun E σ1 => Q (.inr E) σ1)) : EV Γ MX8_join d 0 [some (.ref v0), some (.int v1), some (.int v2)] [] σ Q := by
  refine EV.aload_n 1 rfl 0 rfl rfl dX8_join_0 ?_
  refine EV.iload_n 2 rfl 1 rfl rfl dX8_join_1 ?_
  refine EV.iload_n 3 rfl 2 rfl rfl dX8_join_2 ?_
  refine EV.bipush 5 rfl dX8_join_3 (v := 42) (by decide) ?_
  obtain ⟨w3, h⟩ := h
  refine EV.cV rfl rfl lk_X8_194 rfl (vs := [.int v1, .int v2, .int 42]) (st := []) rfl rfl (Nat.le_of_ble_eq_true rfl) dX8_join_5 w3 h (fun v σ1 h => ?_)
  obtain ⟨r2, rfl, h⟩ := h
  show EV Γ MX8_join d 8 [some (.ref v0), some (.int v1), some (.int v2)] [.int r2] σ1 Q
  exact EV.iret rfl dX8_join_8 h
theorem eX8_join {Γ : Gm} {d : Nat} {σ : AH} {Q : Oc → AH → Prop} {v0 : Nat} {v1 : Int32} {v2 : Int32} (h : hs σ v0 = some (6, 17) ∧ CI Γ d MX8_addOfTwo [.ref v0, .int v1, .int v2, .int 42] σ (fun r2 σ1 => Q (.inl (some (.int r2))) σ1) (fun E σ1 => Q (.inr E) σ1)) : RUN Γ d MX8_join [.ref v0, .int v1, .int v2] σ Q :=
  EV.enter [some (.ref v0), some (.int v1), some (.int v2)] rfl (by decide +kernel) (Nat.le_of_ble_eq_true rfl) rfl (gX8_join_0 h)
theorem gX8_quotient_0 {Γ : Gm} {d : Nat} {σ : AH} {Q : Oc → AH → Prop} {v0 : Nat} {v1 : Int32} {v2 : Int32} (h : hs σ v0 = some (6, 17) ∧ CI Γ d MX8_addOfTwo [.ref v0, .int v1, .int v2, .int 47] σ (fun r2 σ1 => Q (.inl (some (.int r2))) σ1) (fun E σ1 => Q (.inr E) σ1)) : EV Γ MX8_quotient d 0 [some (.ref v0), some (.int v1), some (.int v2)] [] σ Q := by
  refine EV.aload_n 1 rfl 0 rfl rfl dX8_quotient_0 ?_
  refine EV.iload_n 2 rfl 1 rfl rfl dX8_quotient_1 ?_
  refine EV.iload_n 3 rfl 2 rfl rfl dX8_quotient_2 ?_
  refine EV.bipush 5 rfl dX8_quotient_3 (v := 47) (by decide) ?_
  obtain ⟨w3, h⟩ := h
  refine EV.cV rfl rfl lk_X8_194 rfl (vs := [.int v1, .int v2, .int 47]) (st := []) rfl rfl (Nat.le_of_ble_eq_true rfl) dX8_quotient_5 w3 h (fun v σ1 h => ?_)
  obtain ⟨r2, rfl, h⟩ := h
  show EV Γ MX8_quotient d 8 [some (.ref v0), some (.int v1), some (.int v2)] [.int r2] σ1 Q
  exact EV.iret rfl dX8_quotient_8 h
theorem eX8_quotient {Γ : Gm} {d : Nat} {σ : AH} {Q : Oc → AH → Prop} {v0 : Nat} {v1 : Int32} {v2 : Int32} (h : hs σ v0 = some (6, 17) ∧ CI Γ d MX8_addOfTwo [.ref v0, .int v1, .int v2, .int 47] σ (fun r2 σ1 => Q (.inl (some (.int r2))) σ1) (fun E σ1 => Q (.inr E) σ1)) : RUN Γ d MX8_quotient [.ref v0, .int v1, .int v2] σ Q :=
  EV.enter [some (.ref v0), some (.int v1), some (.int v2)] rfl (by decide +kernel) (Nat.le_of_ble_eq_true rfl) rfl (gX8_quotient_0 h)
theorem gX8_remainder_0 {Γ : Gm} {d : Nat} {σ : AH} {Q : Oc → AH → Prop} {v0 : Nat} {v1 : Int32} {v2 : Int32} (h : hs σ v0 = some (6, 17) ∧ CI Γ d MX8_addOfTwo [.ref v0, .int v1, .int v2, .int 37] σ (fun r2 σ1 => Q (.inl (some (.int r2))) σ1) (fun E σ1 => Q (.inr E) σ1)) : EV Γ MX8_remainder d 0 [some (.ref v0), some (.int v1), some (.int v2)] [] σ Q := by
  refine EV.aload_n 1 rfl 0 rfl rfl dX8_remainder_0 ?_
  refine EV.iload_n 2 rfl 1 rfl rfl dX8_remainder_1 ?_
  refine EV.iload_n 3 rfl 2 rfl rfl dX8_remainder_2 ?_
  refine EV.bipush 5 rfl dX8_remainder_3 (v := 37) (by decide) ?_
  obtain ⟨w3, h⟩ := h
  refine EV.cV rfl rfl lk_X8_194 rfl (vs := [.int v1, .int v2, .int 37]) (st := []) rfl rfl (Nat.le_of_ble_eq_true rfl) dX8_remainder_5 w3 h (fun v σ1 h => ?_)
  obtain ⟨r2, rfl, h⟩ := h
  show EV Γ MX8_remainder d 8 [some (.ref v0), some (.int v1), some (.int v2)] [.int r2] σ1 Q
  exact EV.iret rfl dX8_remainder_8 h
theorem eX8_remainder {Γ : Gm} {d : Nat} {σ : AH} {Q : Oc → AH → Prop} {v0 : Nat} {v1 : Int32} {v2 : Int32} (h : hs σ v0 = some (6, 17) ∧ CI Γ d MX8_addOfTwo [.ref v0, .int v1, .int v2, .int 37] σ (fun r2 σ1 => Q (.inl (some (.int r2))) σ1) (fun E σ1 => Q (.inr E) σ1)) : RUN Γ d MX8_remainder [.ref v0, .int v1, .int v2] σ Q :=
  EV.enter [some (.ref v0), some (.int v1), some (.int v2)] rfl (by decide +kernel) (Nat.le_of_ble_eq_true rfl) rfl (gX8_remainder_0 h)
theorem gX8_maximal_0 {Γ : Gm} {d : Nat} {σ : AH} {Q : Oc → AH → Prop} {v0 : Nat} {v1 : Int32} (h : hs σ v0 = some (6, 17) ∧ CI Γ d MX8_addOfOne [.ref v0, .int v1, .int 4] σ (fun r2 σ1 => Q (.inl (some (.int r2))) σ1) (fun E σ1 => Q (.inr E) σ1)) : EV Γ MX8_maximal d 0 [some (.ref v0), some (.int v1)] [] σ Q := by
  refine EV.aload_n 1 rfl 0 rfl rfl dX8_maximal_0 ?_
  refine EV.iload_n 2 rfl 1 rfl rfl dX8_maximal_1 ?_
  refine EV.iconst 3 rfl dX8_maximal_2 (v := 4) (by decide) ?_
  obtain ⟨w3, h⟩ := h
  refine EV.cV rfl rfl lk_X8_198 rfl (vs := [.int v1, .int 4]) (st := []) rfl rfl (Nat.le_of_ble_eq_true rfl) dX8_maximal_3 w3 h (fun v σ1 h => ?_)
  obtain ⟨r2, rfl, h⟩ := h
  show EV Γ MX8_maximal d 6 [some (.ref v0), some (.int v1)] [.int r2] σ1 Q
  exact EV.iret rfl dX8_maximal_6 h
theorem eX8_maximal {Γ : Gm} {d : Nat} {σ : AH} {Q : Oc → AH → Prop} {v0 : Nat} {v1 : Int32} (h : hs σ v0 = some (6, 17) ∧ CI Γ d MX8_addOfOne [.ref v0, .int v1, .int 4] σ (fun r2 σ1 => Q (.inl (some (.int r2))) σ1) (fun E σ1 => Q (.inr E) σ1)) : RUN Γ d MX8_maximal [.ref v0, .int v1] σ Q :=
  EV.enter [some (.ref v0), some (.int v1)] rfl (by decide +kernel) (Nat.le_of_ble_eq_true rfl) rfl (gX8_maximal_0 h)
theorem gX8_minimal_0 {Γ : Gm} {d : Nat} {σ : AH} {Q : Oc → AH → Prop} {v0 : Nat} {v1 : Int32} (h : hs σ v0 = some (6, 17) ∧ CI Γ d MX8_addOfOne [.ref v0, .int v1, .int 5] σ (fun r2 σ1 => Q (.inl (some (.int r2))) σ1) (fun E σ1 => Q (.inr E) σ1)) : EV Γ MX8_minimal d 0 [some (.ref v0), some (.int v1)] [] σ Q := by
  refine EV.aload_n 1 rfl 0 rfl rfl dX8_minimal_0 ?_
  refine EV.iload_n 2 rfl 1 rfl rfl dX8_minimal_1 ?_
  refine EV.iconst 3 rfl dX8_minimal_2 (v := 5) (by decide) ?_
  obtain ⟨w3, h⟩ := h
  refine EV.cV rfl rfl lk_X8_198 rfl (vs := [.int v1, .int 5]) (st := []) rfl rfl (Nat.le_of_ble_eq_true rfl) dX8_minimal_3 w3 h (fun v σ1 h => ?_)
  obtain ⟨r2, rfl, h⟩ := h
  show EV Γ MX8_minimal d 6 [some (.ref v0), some (.int v1)] [.int r2] σ1 Q
  exact EV.iret rfl dX8_minimal_6 h
theorem eX8_minimal {Γ : Gm} {d : Nat} {σ : AH} {Q : Oc → AH → Prop} {v0 : Nat} {v1 : Int32} (h : hs σ v0 = some (6, 17) ∧ CI Γ d MX8_addOfOne [.ref v0, .int v1, .int 5] σ (fun r2 σ1 => Q (.inl (some (.int r2))) σ1) (fun E σ1 => Q (.inr E) σ1)) : RUN Γ d MX8_minimal [.ref v0, .int v1] σ Q :=
  EV.enter [some (.ref v0), some (.int v1)] rfl (by decide +kernel) (Nat.le_of_ble_eq_true rfl) rfl (gX8_minimal_0 h)
theorem gX8_hitting_0 {Γ : Gm} {d : Nat} {σ : AH} {Q : Oc → AH → Prop} {v0 : Nat} {v1 : Int32} (h : hs σ v0 = some (6, 17) ∧ CI Γ d MX8_addOfOne [.ref v0, .int v1, .int 6] σ (fun r2 σ1 => Q (.inl (some (.int r2))) σ1) (fun E σ1 => Q (.inr E) σ1)) : EV Γ MX8_hitting d 0 [some (.ref v0), some (.int v1)] [] σ Q := by
  refine EV.aload_n 1 rfl 0 rfl rfl dX8_hitting_0 ?_
  refine EV.iload_n 2 rfl 1 rfl rfl dX8_hitting_1 ?_
  refine EV.bipush 4 rfl dX8_hitting_2 (v := 6) (by decide) ?_
  obtain ⟨w3, h⟩ := h
  refine EV.cV rfl rfl lk_X8_198 rfl (vs := [.int v1, .int 6]) (st := []) rfl rfl (Nat.le_of_ble_eq_true rfl) dX8_hitting_4 w3 h (fun v σ1 h => ?_)
  obtain ⟨r2, rfl, h⟩ := h
  show EV Γ MX8_hitting d 7 [some (.ref v0), some (.int v1)] [.int r2] σ1 Q
  exact EV.iret rfl dX8_hitting_7 h
theorem eX8_hitting {Γ : Gm} {d : Nat} {σ : AH} {Q : Oc → AH → Prop} {v0 : Nat} {v1 : Int32} (h : hs σ v0 = some (6, 17) ∧ CI Γ d MX8_addOfOne [.ref v0, .int v1, .int 6] σ (fun r2 σ1 => Q (.inl (some (.int r2))) σ1) (fun E σ1 => Q (.inr E) σ1)) : RUN Γ d MX8_hitting [.ref v0, .int v1] σ Q :=
  EV.enter [some (.ref v0), some (.int v1)] rfl (by decide +kernel) (Nat.le_of_ble_eq_true rfl) rfl (gX8_hitting_0 h)
theorem gX8_addOfOne_0 {Γ : Gm} {d : Nat} {σ : AH} {Q : Oc → AH → Prop} {v0 : Nat} {v1 : Int32} {v2 : Int32} (h : hs σ v0 = some (6, 17) ∧ CR Γ d MX8_familyOf [.ref v0, .int v1] σ (fun r2 σ1 => hs σ1 v0 = some (6, 17) ∧ CV Γ d MX8_checkRoom [.ref v0] σ1 (fun σ4 => hs σ4 r2 = some (4, 3) ∧ ∃ t8 : Nat, gr σ4 r2 0 = some t8 ∧ CR Γ d MJ7_copyOf_c38d5 [.ref t8, .int 64] σ4 (fun r11 σ10 => hs σ10 v0 = some (6, 17) ∧ ∃ t13 : Nat, gr σ10 v0 10 = some t13 ∧ hs σ10 t13 = some (0, 4) ∧ CV Γ d MX0_applyToOne [.ref t13, .int v2, .ref r11] σ10 (fun σ15 => hs σ15 v0 = some (6, 17) ∧ CI Γ d MX8_addFamily [.ref v0, .ref r11] σ15 (fun r19 σ18 => Q (.inl (some (.int r19))) σ18) (fun E σ18 => Q (.inr E) σ18)) (fun E σ15 => Q (.inr E) σ15)) (fun _ _ => False)) (fun E σ4 => Q (.inr E) σ4)) (fun E σ1 => Q (.inr E) σ1)) : EV Γ MX8_addOfOne d 0 [some (.ref v0), some (.int v1), some (.int v2), none, none] [] σ Q := by
  refine EV.aload_n 1 rfl 0 rfl rfl dX8_addOfOne_0 ?_
  refine EV.iload_n 2 rfl 1 rfl rfl dX8_addOfOne_1 ?_
  obtain ⟨w3, h⟩ := h
  refine EV.cV rfl rfl lk_X8_124 rfl (vs := [.int v1]) (st := []) rfl rfl (Nat.le_of_ble_eq_true rfl) dX8_addOfOne_2 w3 h (fun v σ1 h => ?_)
  obtain ⟨r2, rfl, h⟩ := h
  show EV Γ MX8_addOfOne d 5 [some (.ref v0), some (.int v1), some (.int v2), none, none] [.ref r2] σ1 Q
  refine EV.astore_n 6 rfl 3 [some (.ref v0), some (.int v1), some (.int v2), some (.ref r2), none] rfl (by decide) rfl dX8_addOfOne_5 ?_
  refine EV.aload_n 7 rfl 0 rfl rfl dX8_addOfOne_6 ?_
  obtain ⟨w6, h⟩ := h
  refine EV.cV rfl rfl lk_X8_104 rfl (vs := []) (st := []) rfl rfl (Nat.le_of_ble_eq_true rfl) dX8_addOfOne_7 w6 h (fun v σ4 h => ?_)
  obtain ⟨rfl, h⟩ := h
  show EV Γ MX8_addOfOne d 10 [some (.ref v0), some (.int v1), some (.int v2), some (.ref r2), none] [] σ4 Q
  refine EV.aload_n 11 rfl 3 rfl rfl dX8_addOfOne_10 ?_
  obtain ⟨w7, h⟩ := h
  obtain ⟨t8, g9, h⟩ := h
  refine EV.getR 14 rfl fl_X8_128 rfl dX8_addOfOne_11 w7 g9 ?_
  refine EV.bipush 16 rfl dX8_addOfOne_14 (v := 64) (by decide) ?_
  refine EV.cS rfl lk_X8_114 rfl (vs := [.ref t8, .int 64]) (st := []) rfl rfl (Nat.le_of_ble_eq_true rfl) dX8_addOfOne_16 h (fun v σ10 h => ?_)
  obtain ⟨r11, rfl, h⟩ := h
  show EV Γ MX8_addOfOne d 19 [some (.ref v0), some (.int v1), some (.int v2), some (.ref r2), none] [.ref r11] σ10 Q
  refine EV.astore 21 rfl [some (.ref v0), some (.int v1), some (.int v2), some (.ref r2), some (.ref r11)] (by decide) rfl dX8_addOfOne_19 ?_
  refine EV.aload_n 22 rfl 0 rfl rfl dX8_addOfOne_21 ?_
  obtain ⟨w12, h⟩ := h
  obtain ⟨t13, g14, h⟩ := h
  refine EV.getR 25 rfl fl_X8_50 rfl dX8_addOfOne_22 w12 g14 ?_
  refine EV.iload_n 26 rfl 2 rfl rfl dX8_addOfOne_25 ?_
  refine EV.aload 28 rfl rfl dX8_addOfOne_26 ?_
  obtain ⟨w17, h⟩ := h
  refine EV.cV rfl rfl lk_X8_201 rfl (vs := [.int v2, .ref r11]) (st := []) rfl rfl (Nat.le_of_ble_eq_true rfl) dX8_addOfOne_28 w17 h (fun v σ15 h => ?_)
  obtain ⟨rfl, h⟩ := h
  show EV Γ MX8_addOfOne d 31 [some (.ref v0), some (.int v1), some (.int v2), some (.ref r2), some (.ref r11)] [] σ15 Q
  refine EV.aload_n 32 rfl 0 rfl rfl dX8_addOfOne_31 ?_
  refine EV.aload 34 rfl rfl dX8_addOfOne_32 ?_
  obtain ⟨w20, h⟩ := h
  refine EV.cV rfl rfl lk_X8_120 rfl (vs := [.ref r11]) (st := []) rfl rfl (Nat.le_of_ble_eq_true rfl) dX8_addOfOne_34 w20 h (fun v σ18 h => ?_)
  obtain ⟨r19, rfl, h⟩ := h
  show EV Γ MX8_addOfOne d 37 [some (.ref v0), some (.int v1), some (.int v2), some (.ref r2), some (.ref r11)] [.int r19] σ18 Q
  exact EV.iret rfl dX8_addOfOne_37 h
theorem eX8_addOfOne {Γ : Gm} {d : Nat} {σ : AH} {Q : Oc → AH → Prop} {v0 : Nat} {v1 : Int32} {v2 : Int32} (h : hs σ v0 = some (6, 17) ∧ CR Γ d MX8_familyOf [.ref v0, .int v1] σ (fun r2 σ1 => hs σ1 v0 = some (6, 17) ∧ CV Γ d MX8_checkRoom [.ref v0] σ1 (fun σ4 => hs σ4 r2 = some (4, 3) ∧ ∃ t8 : Nat, gr σ4 r2 0 = some t8 ∧ CR Γ d MJ7_copyOf_c38d5 [.ref t8, .int 64] σ4 (fun r11 σ10 => hs σ10 v0 = some (6, 17) ∧ ∃ t13 : Nat, gr σ10 v0 10 = some t13 ∧ hs σ10 t13 = some (0, 4) ∧ CV Γ d MX0_applyToOne [.ref t13, .int v2, .ref r11] σ10 (fun σ15 => hs σ15 v0 = some (6, 17) ∧ CI Γ d MX8_addFamily [.ref v0, .ref r11] σ15 (fun r19 σ18 => Q (.inl (some (.int r19))) σ18) (fun E σ18 => Q (.inr E) σ18)) (fun E σ15 => Q (.inr E) σ15)) (fun _ _ => False)) (fun E σ4 => Q (.inr E) σ4)) (fun E σ1 => Q (.inr E) σ1)) : RUN Γ d MX8_addOfOne [.ref v0, .int v1, .int v2] σ Q :=
  EV.enter [some (.ref v0), some (.int v1), some (.int v2), none, none] rfl (by decide +kernel) (Nat.le_of_ble_eq_true rfl) rfl (gX8_addOfOne_0 h)
theorem gX8_addOfTwo_0 {Γ : Gm} {d : Nat} {σ : AH} {Q : Oc → AH → Prop} {v0 : Nat} {v1 : Int32} {v2 : Int32} {v3 : Int32} (h : hs σ v0 = some (6, 17) ∧ CV Γ d MX8_checkCreated [.ref v0, .int v1] σ (fun σ1 => hs σ1 v0 = some (6, 17) ∧ CV Γ d MX8_checkCreated [.ref v0, .int v2] σ1 (fun σ4 => hs σ4 v0 = some (6, 17) ∧ CR Γ d MX8_familyOf [.ref v0, .int v1] σ4 (fun r8 σ7 => hs σ7 v0 = some (6, 17) ∧ CR Γ d MX8_familyOf [.ref v0, .int v2] σ7 (fun r11 σ10 => hs σ10 v0 = some (6, 17) ∧ CV Γ d MX8_checkRoom [.ref v0] σ10 (fun σ13 => hs σ13 r11 = some (4, 3) ∧ (((gi σ13 r11 1) ≠ 0 → EV Γ MX8_addOfTwo d 56 [some (.ref v0), none, none, some (.int v3), some (.ref r8), some (.ref r11), none] [] σ13 Q) ∧ ((gi σ13 r11 1) = 0 → ((v3 = 47 → EV Γ MX8_addOfTwo d 48 [none, none, none, none, none, none, none] [] σ13 Q) ∧ (¬ v3 = 47 → ((v3 ≠ 37 → EV Γ MX8_addOfTwo d 56 [some (.ref v0), none, none, some (.int v3), some (.ref r8), some (.ref r11), none] [] σ13 Q) ∧ (v3 = 37 → EV Γ MX8_addOfTwo d 48 [none, none, none, none, none, none, none] [] σ13 Q))))))) (fun E σ13 => Q (.inr E) σ13)) (fun E σ10 => Q (.inr E) σ10)) (fun E σ7 => Q (.inr E) σ7)) (fun E σ4 => Q (.inr E) σ4)) (fun E σ1 => Q (.inr E) σ1)) : EV Γ MX8_addOfTwo d 0 [some (.ref v0), some (.int v1), some (.int v2), some (.int v3), none, none, none] [] σ Q := by
  refine EV.aload_n 1 rfl 0 rfl rfl dX8_addOfTwo_0 ?_
  refine EV.iload_n 2 rfl 1 rfl rfl dX8_addOfTwo_1 ?_
  obtain ⟨w3, h⟩ := h
  refine EV.cV rfl rfl lk_X8_179 rfl (vs := [.int v1]) (st := []) rfl rfl (Nat.le_of_ble_eq_true rfl) dX8_addOfTwo_2 w3 h (fun v σ1 h => ?_)
  obtain ⟨rfl, h⟩ := h
  show EV Γ MX8_addOfTwo d 5 [some (.ref v0), some (.int v1), some (.int v2), some (.int v3), none, none, none] [] σ1 Q
  refine EV.aload_n 6 rfl 0 rfl rfl dX8_addOfTwo_5 ?_
  refine EV.iload_n 7 rfl 2 rfl rfl dX8_addOfTwo_6 ?_
  obtain ⟨w6, h⟩ := h
  refine EV.cV rfl rfl lk_X8_179 rfl (vs := [.int v2]) (st := []) rfl rfl (Nat.le_of_ble_eq_true rfl) dX8_addOfTwo_7 w6 h (fun v σ4 h => ?_)
  obtain ⟨rfl, h⟩ := h
  show EV Γ MX8_addOfTwo d 10 [some (.ref v0), some (.int v1), some (.int v2), some (.int v3), none, none, none] [] σ4 Q
  refine EV.aload_n 11 rfl 0 rfl rfl dX8_addOfTwo_10 ?_
  refine EV.iload_n 12 rfl 1 rfl rfl dX8_addOfTwo_11 ?_
  obtain ⟨w9, h⟩ := h
  refine EV.cV rfl rfl lk_X8_124 rfl (vs := [.int v1]) (st := []) rfl rfl (Nat.le_of_ble_eq_true rfl) dX8_addOfTwo_12 w9 h (fun v σ7 h => ?_)
  obtain ⟨r8, rfl, h⟩ := h
  show EV Γ MX8_addOfTwo d 15 [some (.ref v0), some (.int v1), some (.int v2), some (.int v3), none, none, none] [.ref r8] σ7 Q
  refine EV.astore 17 rfl [some (.ref v0), some (.int v1), some (.int v2), some (.int v3), some (.ref r8), none, none] (by decide) rfl dX8_addOfTwo_15 ?_
  refine EV.aload_n 18 rfl 0 rfl rfl dX8_addOfTwo_17 ?_
  refine EV.iload_n 19 rfl 2 rfl rfl dX8_addOfTwo_18 ?_
  obtain ⟨w12, h⟩ := h
  refine EV.cV rfl rfl lk_X8_124 rfl (vs := [.int v2]) (st := []) rfl rfl (Nat.le_of_ble_eq_true rfl) dX8_addOfTwo_19 w12 h (fun v σ10 h => ?_)
  obtain ⟨r11, rfl, h⟩ := h
  show EV Γ MX8_addOfTwo d 22 [some (.ref v0), some (.int v1), some (.int v2), some (.int v3), some (.ref r8), none, none] [.ref r11] σ10 Q
  refine EV.astore 24 rfl [some (.ref v0), some (.int v1), some (.int v2), some (.int v3), some (.ref r8), some (.ref r11), none] (by decide) rfl dX8_addOfTwo_22 ?_
  refine EV.aload_n 25 rfl 0 rfl rfl dX8_addOfTwo_24 ?_
  obtain ⟨w15, h⟩ := h
  refine EV.cV rfl rfl lk_X8_104 rfl (vs := []) (st := []) rfl rfl (Nat.le_of_ble_eq_true rfl) dX8_addOfTwo_25 w15 h (fun v σ13 h => ?_)
  obtain ⟨rfl, h⟩ := h
  show EV Γ MX8_addOfTwo d 28 [some (.ref v0), some (.int v1), some (.int v2), some (.int v3), some (.ref r8), some (.ref r11), none] [] σ13 Q
  refine EV.aload 30 rfl rfl dX8_addOfTwo_28 ?_
  obtain ⟨w16, h⟩ := h
  refine EV.getI 33 rfl fl_X8_185 rfl dX8_addOfTwo_30 w16 ?_
  refine EV.if_ne 36 56 rfl (by decide) dX8_addOfTwo_33 (fun c17 => ?_) (fun c17 => ?_)
  · have h := h.1 c17
    refine EV.mask [true, false, false, true, true, true, false] (L' := [some (.ref v0), none, none, some (.int v3), some (.ref r8), some (.ref r11), none]) rfl ?_
    exact h
  · have h := h.2 c17
    refine EV.iload_n 37 rfl 3 rfl rfl dX8_addOfTwo_36 ?_
    refine EV.bipush 39 rfl dX8_addOfTwo_37 (v := 47) (by decide) ?_
    refine EV.icmp_eq 42 48 rfl (by decide) dX8_addOfTwo_39 (fun c18 => ?_) (fun c18 => ?_)
    · have h := h.1 c18
      refine EV.mask [false, false, false, false, false, false, false] (L' := [none, none, none, none, none, none, none]) rfl ?_
      exact h
    · have h := h.2 c18
      refine EV.iload_n 43 rfl 3 rfl rfl dX8_addOfTwo_42 ?_
      refine EV.bipush 45 rfl dX8_addOfTwo_43 (v := 37) (by decide) ?_
      refine EV.icmp_ne 48 56 rfl (by decide) dX8_addOfTwo_45 (fun c19 => ?_) (fun c19 => ?_)
      · have h := h.1 c19
        refine EV.mask [true, false, false, true, true, true, false] (L' := [some (.ref v0), none, none, some (.int v3), some (.ref r8), some (.ref r11), none]) rfl ?_
        exact h
      · have h := h.2 c19
        refine EV.mask [false, false, false, false, false, false, false] (L' := [none, none, none, none, none, none, none]) rfl ?_
        exact h
theorem eX8_addOfTwo {Γ : Gm} {d : Nat} {σ : AH} {Q : Oc → AH → Prop} {v0 : Nat} {v1 : Int32} {v2 : Int32} {v3 : Int32} (h : hs σ v0 = some (6, 17) ∧ CV Γ d MX8_checkCreated [.ref v0, .int v1] σ (fun σ1 => hs σ1 v0 = some (6, 17) ∧ CV Γ d MX8_checkCreated [.ref v0, .int v2] σ1 (fun σ4 => hs σ4 v0 = some (6, 17) ∧ CR Γ d MX8_familyOf [.ref v0, .int v1] σ4 (fun r8 σ7 => hs σ7 v0 = some (6, 17) ∧ CR Γ d MX8_familyOf [.ref v0, .int v2] σ7 (fun r11 σ10 => hs σ10 v0 = some (6, 17) ∧ CV Γ d MX8_checkRoom [.ref v0] σ10 (fun σ13 => hs σ13 r11 = some (4, 3) ∧ (((gi σ13 r11 1) ≠ 0 → EV Γ MX8_addOfTwo d 56 [some (.ref v0), none, none, some (.int v3), some (.ref r8), some (.ref r11), none] [] σ13 Q) ∧ ((gi σ13 r11 1) = 0 → ((v3 = 47 → EV Γ MX8_addOfTwo d 48 [none, none, none, none, none, none, none] [] σ13 Q) ∧ (¬ v3 = 47 → ((v3 ≠ 37 → EV Γ MX8_addOfTwo d 56 [some (.ref v0), none, none, some (.int v3), some (.ref r8), some (.ref r11), none] [] σ13 Q) ∧ (v3 = 37 → EV Γ MX8_addOfTwo d 48 [none, none, none, none, none, none, none] [] σ13 Q))))))) (fun E σ13 => Q (.inr E) σ13)) (fun E σ10 => Q (.inr E) σ10)) (fun E σ7 => Q (.inr E) σ7)) (fun E σ4 => Q (.inr E) σ4)) (fun E σ1 => Q (.inr E) σ1)) : RUN Γ d MX8_addOfTwo [.ref v0, .int v1, .int v2, .int v3] σ Q :=
  EV.enter [some (.ref v0), some (.int v1), some (.int v2), some (.int v3), none, none, none] rfl (by decide +kernel) (Nat.le_of_ble_eq_true rfl) rfl (gX8_addOfTwo_0 h)
theorem gX8_addOfTwo_48 {Γ : Gm} {d : Nat} {σ : AH} {Q : Oc → AH → Prop} (h : 6 ≤ d ∧ Q (.inr "java/lang/ArithmeticException") (thr σ)) : EV Γ MX8_addOfTwo d 48 [none, none, none, none, none, none, none] [] σ Q := by
  obtain ⟨z1, h⟩ := h
  exact EV.throw0 rfl th_X8_111 z1 dX8_addOfTwo_48 dX8_addOfTwo_51 dX8_addOfTwo_52 dX8_addOfTwo_55 h
theorem gX8_addOfTwo_56 {Γ : Gm} {d : Nat} {σ : AH} {Q : Oc → AH → Prop} {v0 : Nat} {v3 : Int32} {v4 : Nat} {v5 : Nat} (h : hs σ v4 = some (4, 3) ∧ ∃ t2 : Nat, gr σ v4 0 = some t2 ∧ CR Γ d MJ7_copyOf_c38d5 [.ref t2, .int 64] σ (fun r5 σ4 => hs σ4 v0 = some (6, 17) ∧ ∃ t7 : Nat, gr σ4 v0 10 = some t7 ∧ hs σ4 v5 = some (4, 3) ∧ ∃ t10 : Nat, gr σ4 v5 0 = some t10 ∧ hs σ4 t7 = some (0, 4) ∧ CV Γ d MX0_applyToTwo [.ref t7, .int v3, .ref r5, .ref t10] σ4 (fun σ12 => hs σ12 v0 = some (6, 17) ∧ CI Γ d MX8_addFamily [.ref v0, .ref r5] σ12 (fun r16 σ15 => Q (.inl (some (.int r16))) σ15) (fun E σ15 => Q (.inr E) σ15)) (fun E σ12 => Q (.inr E) σ12)) (fun _ _ => False)) : EV Γ MX8_addOfTwo d 56 [some (.ref v0), none, none, some (.int v3), some (.ref v4), some (.ref v5), none] [] σ Q := by
  refine EV.aload 58 rfl rfl dX8_addOfTwo_56 ?_
  obtain ⟨w1, h⟩ := h
  obtain ⟨t2, g3, h⟩ := h
  refine EV.getR 61 rfl fl_X8_128 rfl dX8_addOfTwo_58 w1 g3 ?_
  refine EV.bipush 63 rfl dX8_addOfTwo_61 (v := 64) (by decide) ?_
  refine EV.cS rfl lk_X8_114 rfl (vs := [.ref t2, .int 64]) (st := []) rfl rfl (Nat.le_of_ble_eq_true rfl) dX8_addOfTwo_63 h (fun v σ4 h => ?_)
  obtain ⟨r5, rfl, h⟩ := h
  show EV Γ MX8_addOfTwo d 66 [some (.ref v0), none, none, some (.int v3), some (.ref v4), some (.ref v5), none] [.ref r5] σ4 Q
  refine EV.astore 68 rfl [some (.ref v0), none, none, some (.int v3), some (.ref v4), some (.ref v5), some (.ref r5)] (by decide) rfl dX8_addOfTwo_66 ?_
  refine EV.aload_n 69 rfl 0 rfl rfl dX8_addOfTwo_68 ?_
  obtain ⟨w6, h⟩ := h
  obtain ⟨t7, g8, h⟩ := h
  refine EV.getR 72 rfl fl_X8_50 rfl dX8_addOfTwo_69 w6 g8 ?_
  refine EV.iload_n 73 rfl 3 rfl rfl dX8_addOfTwo_72 ?_
  refine EV.aload 75 rfl rfl dX8_addOfTwo_73 ?_
  refine EV.aload 77 rfl rfl dX8_addOfTwo_75 ?_
  obtain ⟨w9, h⟩ := h
  obtain ⟨t10, g11, h⟩ := h
  refine EV.getR 80 rfl fl_X8_128 rfl dX8_addOfTwo_77 w9 g11 ?_
  obtain ⟨w14, h⟩ := h
  refine EV.cV rfl rfl lk_X8_205 rfl (vs := [.int v3, .ref r5, .ref t10]) (st := []) rfl rfl (Nat.le_of_ble_eq_true rfl) dX8_addOfTwo_80 w14 h (fun v σ12 h => ?_)
  obtain ⟨rfl, h⟩ := h
  show EV Γ MX8_addOfTwo d 83 [some (.ref v0), none, none, some (.int v3), some (.ref v4), some (.ref v5), some (.ref r5)] [] σ12 Q
  refine EV.aload_n 84 rfl 0 rfl rfl dX8_addOfTwo_83 ?_
  refine EV.aload 86 rfl rfl dX8_addOfTwo_84 ?_
  obtain ⟨w17, h⟩ := h
  refine EV.cV rfl rfl lk_X8_120 rfl (vs := [.ref r5]) (st := []) rfl rfl (Nat.le_of_ble_eq_true rfl) dX8_addOfTwo_86 w17 h (fun v σ15 h => ?_)
  obtain ⟨r16, rfl, h⟩ := h
  show EV Γ MX8_addOfTwo d 89 [some (.ref v0), none, none, some (.int v3), some (.ref v4), some (.ref v5), some (.ref r5)] [.int r16] σ15 Q
  exact EV.iret rfl dX8_addOfTwo_89 h
theorem gX8_count_0 {Γ : Gm} {d : Nat} {σ : AH} {Q : Oc → AH → Prop} {v0 : Nat} {v1 : Int32} (h : hs σ v0 = some (6, 17) ∧ CR Γ d MX8_familyOf [.ref v0, .int v1] σ (fun r2 σ1 => hs σ1 r2 = some (4, 3) ∧ Q (.inl (some (.int (gi σ1 r2 1)))) σ1) (fun E σ1 => Q (.inr E) σ1)) : EV Γ MX8_count d 0 [some (.ref v0), some (.int v1)] [] σ Q := by
  refine EV.aload_n 1 rfl 0 rfl rfl dX8_count_0 ?_
  refine EV.iload_n 2 rfl 1 rfl rfl dX8_count_1 ?_
  obtain ⟨w3, h⟩ := h
  refine EV.cV rfl rfl lk_X8_124 rfl (vs := [.int v1]) (st := []) rfl rfl (Nat.le_of_ble_eq_true rfl) dX8_count_2 w3 h (fun v σ1 h => ?_)
  obtain ⟨r2, rfl, h⟩ := h
  show EV Γ MX8_count d 5 [some (.ref v0), some (.int v1)] [.ref r2] σ1 Q
  obtain ⟨w4, h⟩ := h
  refine EV.getI 8 rfl fl_X8_185 rfl dX8_count_5 w4 ?_
  exact EV.iret rfl dX8_count_8 h
theorem eX8_count {Γ : Gm} {d : Nat} {σ : AH} {Q : Oc → AH → Prop} {v0 : Nat} {v1 : Int32} (h : hs σ v0 = some (6, 17) ∧ CR Γ d MX8_familyOf [.ref v0, .int v1] σ (fun r2 σ1 => hs σ1 r2 = some (4, 3) ∧ Q (.inl (some (.int (gi σ1 r2 1)))) σ1) (fun E σ1 => Q (.inr E) σ1)) : RUN Γ d MX8_count [.ref v0, .int v1] σ Q :=
  EV.enter [some (.ref v0), some (.int v1)] rfl (by decide +kernel) (Nat.le_of_ble_eq_true rfl) rfl (gX8_count_0 h)
theorem gX8_contains_0 {Γ : Gm} {d : Nat} {σ : AH} {Q : Oc → AH → Prop} {v0 : Nat} {v1 : Int32} {v2 : Int32} (h : hs σ v0 = some (6, 17) ∧ CR Γ d MX8_familyOf [.ref v0, .int v1] σ (fun r2 σ1 => hs σ1 r2 = some (4, 3) ∧ ∃ t5 : Nat, gr σ1 r2 0 = some t5 ∧ CI Γ d MX7_has [.ref t5, .int v2] σ1 (fun r8 σ7 => (narrow .boolean (.int r8) = .int r8 ∧ Q (.inl (some (.int r8))) σ7)) (fun _ _ => False)) (fun E σ1 => Q (.inr E) σ1)) : EV Γ MX8_contains d 0 [some (.ref v0), some (.int v1), some (.int v2)] [] σ Q := by
  refine EV.aload_n 1 rfl 0 rfl rfl dX8_contains_0 ?_
  refine EV.iload_n 2 rfl 1 rfl rfl dX8_contains_1 ?_
  obtain ⟨w3, h⟩ := h
  refine EV.cV rfl rfl lk_X8_124 rfl (vs := [.int v1]) (st := []) rfl rfl (Nat.le_of_ble_eq_true rfl) dX8_contains_2 w3 h (fun v σ1 h => ?_)
  obtain ⟨r2, rfl, h⟩ := h
  show EV Γ MX8_contains d 5 [some (.ref v0), some (.int v1), some (.int v2)] [.ref r2] σ1 Q
  obtain ⟨w4, h⟩ := h
  obtain ⟨t5, g6, h⟩ := h
  refine EV.getR 8 rfl fl_X8_128 rfl dX8_contains_5 w4 g6 ?_
  refine EV.iload_n 9 rfl 2 rfl rfl dX8_contains_8 ?_
  refine EV.cS rfl lk_X8_218 rfl (vs := [.ref t5, .int v2]) (st := []) rfl rfl (Nat.le_of_ble_eq_true rfl) dX8_contains_9 h (fun v σ7 h => ?_)
  obtain ⟨r8, rfl, h⟩ := h
  show EV Γ MX8_contains d 12 [some (.ref v0), some (.int v1), some (.int v2)] [.int r8] σ7 Q
  exact EV.zret rfl h.1 dX8_contains_12 h.2
theorem eX8_contains {Γ : Gm} {d : Nat} {σ : AH} {Q : Oc → AH → Prop} {v0 : Nat} {v1 : Int32} {v2 : Int32} (h : hs σ v0 = some (6, 17) ∧ CR Γ d MX8_familyOf [.ref v0, .int v1] σ (fun r2 σ1 => hs σ1 r2 = some (4, 3) ∧ ∃ t5 : Nat, gr σ1 r2 0 = some t5 ∧ CI Γ d MX7_has [.ref t5, .int v2] σ1 (fun r8 σ7 => (narrow .boolean (.int r8) = .int r8 ∧ Q (.inl (some (.int r8))) σ7)) (fun _ _ => False)) (fun E σ1 => Q (.inr E) σ1)) : RUN Γ d MX8_contains [.ref v0, .int v1, .int v2] σ Q :=
  EV.enter [some (.ref v0), some (.int v1), some (.int v2)] rfl (by decide +kernel) (Nat.le_of_ble_eq_true rfl) rfl (gX8_contains_0 h)
theorem gX8_areEqual_0 {Γ : Gm} {d : Nat} {σ : AH} {Q : Oc → AH → Prop} {v0 : Nat} {v1 : Int32} {v2 : Int32} (h : hs σ v0 = some (6, 17) ∧ CV Γ d MX8_checkCreated [.ref v0, .int v1] σ (fun σ1 => hs σ1 v0 = some (6, 17) ∧ CV Γ d MX8_checkCreated [.ref v0, .int v2] σ1 (fun σ4 => hs σ4 v0 = some (6, 17) ∧ CR Γ d MX8_familyOf [.ref v0, .int v1] σ4 (fun r8 σ7 => hs σ7 v0 = some (6, 17) ∧ CR Γ d MX8_familyOf [.ref v0, .int v2] σ7 (fun r11 σ10 => hs σ10 r8 = some (4, 3) ∧ hs σ10 r11 = some (4, 3) ∧ (((gi σ10 r8 1) ≠ (gi σ10 r11 1) → Q (.inl (some (.int 0))) σ10) ∧ ((gi σ10 r8 1) = (gi σ10 r11 1) → ∃ t16 : Nat, gr σ10 r8 0 = some t16 ∧ ∃ t18 : Nat, gr σ10 r11 0 = some t18 ∧ CI Γ d MX7_isInside [.ref t16, .ref t18] σ10 (fun r21 σ20 => ((r21 = 0 → Q (.inl (some (.int 0))) σ20) ∧ (¬ r21 = 0 → Q (.inl (some (.int 1))) σ20))) (fun _ _ => False)))) (fun E σ10 => Q (.inr E) σ10)) (fun E σ7 => Q (.inr E) σ7)) (fun E σ4 => Q (.inr E) σ4)) (fun E σ1 => Q (.inr E) σ1)) : EV Γ MX8_areEqual d 0 [some (.ref v0), some (.int v1), some (.int v2), none, none] [] σ Q := by
  refine EV.aload_n 1 rfl 0 rfl rfl dX8_areEqual_0 ?_
  refine EV.iload_n 2 rfl 1 rfl rfl dX8_areEqual_1 ?_
  obtain ⟨w3, h⟩ := h
  refine EV.cV rfl rfl lk_X8_179 rfl (vs := [.int v1]) (st := []) rfl rfl (Nat.le_of_ble_eq_true rfl) dX8_areEqual_2 w3 h (fun v σ1 h => ?_)
  obtain ⟨rfl, h⟩ := h
  show EV Γ MX8_areEqual d 5 [some (.ref v0), some (.int v1), some (.int v2), none, none] [] σ1 Q
  refine EV.aload_n 6 rfl 0 rfl rfl dX8_areEqual_5 ?_
  refine EV.iload_n 7 rfl 2 rfl rfl dX8_areEqual_6 ?_
  obtain ⟨w6, h⟩ := h
  refine EV.cV rfl rfl lk_X8_179 rfl (vs := [.int v2]) (st := []) rfl rfl (Nat.le_of_ble_eq_true rfl) dX8_areEqual_7 w6 h (fun v σ4 h => ?_)
  obtain ⟨rfl, h⟩ := h
  show EV Γ MX8_areEqual d 10 [some (.ref v0), some (.int v1), some (.int v2), none, none] [] σ4 Q
  refine EV.aload_n 11 rfl 0 rfl rfl dX8_areEqual_10 ?_
  refine EV.iload_n 12 rfl 1 rfl rfl dX8_areEqual_11 ?_
  obtain ⟨w9, h⟩ := h
  refine EV.cV rfl rfl lk_X8_124 rfl (vs := [.int v1]) (st := []) rfl rfl (Nat.le_of_ble_eq_true rfl) dX8_areEqual_12 w9 h (fun v σ7 h => ?_)
  obtain ⟨r8, rfl, h⟩ := h
  show EV Γ MX8_areEqual d 15 [some (.ref v0), some (.int v1), some (.int v2), none, none] [.ref r8] σ7 Q
  refine EV.astore_n 16 rfl 3 [some (.ref v0), some (.int v1), some (.int v2), some (.ref r8), none] rfl (by decide) rfl dX8_areEqual_15 ?_
  refine EV.aload_n 17 rfl 0 rfl rfl dX8_areEqual_16 ?_
  refine EV.iload_n 18 rfl 2 rfl rfl dX8_areEqual_17 ?_
  obtain ⟨w12, h⟩ := h
  refine EV.cV rfl rfl lk_X8_124 rfl (vs := [.int v2]) (st := []) rfl rfl (Nat.le_of_ble_eq_true rfl) dX8_areEqual_18 w12 h (fun v σ10 h => ?_)
  obtain ⟨r11, rfl, h⟩ := h
  show EV Γ MX8_areEqual d 21 [some (.ref v0), some (.int v1), some (.int v2), some (.ref r8), none] [.ref r11] σ10 Q
  refine EV.astore 23 rfl [some (.ref v0), some (.int v1), some (.int v2), some (.ref r8), some (.ref r11)] (by decide) rfl dX8_areEqual_21 ?_
  refine EV.aload_n 24 rfl 3 rfl rfl dX8_areEqual_23 ?_
  obtain ⟨w13, h⟩ := h
  refine EV.getI 27 rfl fl_X8_185 rfl dX8_areEqual_24 w13 ?_
  refine EV.aload 29 rfl rfl dX8_areEqual_27 ?_
  obtain ⟨w14, h⟩ := h
  refine EV.getI 32 rfl fl_X8_185 rfl dX8_areEqual_29 w14 ?_
  refine EV.icmp_ne 35 54 rfl (by decide) dX8_areEqual_32 (fun c15 => ?_) (fun c15 => ?_)
  · have h := h.1 c15
    refine EV.iconst 55 rfl dX8_areEqual_54 (v := 0) (by decide) ?_
    exact EV.zret rfl rfl dX8_areEqual_55 h
  · have h := h.2 c15
    refine EV.aload_n 36 rfl 3 rfl rfl dX8_areEqual_35 ?_
    obtain ⟨t16, g17, h⟩ := h
    refine EV.getR 39 rfl fl_X8_128 rfl dX8_areEqual_36 w13 g17 ?_
    refine EV.aload 41 rfl rfl dX8_areEqual_39 ?_
    obtain ⟨t18, g19, h⟩ := h
    refine EV.getR 44 rfl fl_X8_128 rfl dX8_areEqual_41 w14 g19 ?_
    refine EV.cS rfl lk_X8_222 rfl (vs := [.ref t16, .ref t18]) (st := []) rfl rfl (Nat.le_of_ble_eq_true rfl) dX8_areEqual_44 h (fun v σ20 h => ?_)
    obtain ⟨r21, rfl, h⟩ := h
    show EV Γ MX8_areEqual d 47 [some (.ref v0), some (.int v1), some (.int v2), some (.ref r8), some (.ref r11)] [.int r21] σ20 Q
    refine EV.if_eq 50 54 rfl (by decide) dX8_areEqual_47 (fun c22 => ?_) (fun c22 => ?_)
    · have h := h.1 c22
      refine EV.iconst 55 rfl dX8_areEqual_54 (v := 0) (by decide) ?_
      exact EV.zret rfl rfl dX8_areEqual_55 h
    · have h := h.2 c22
      refine EV.iconst 51 rfl dX8_areEqual_50 (v := 1) (by decide) ?_
      refine EV.goto 55 (by decide) dX8_areEqual_51 ?_
      exact EV.zret rfl rfl dX8_areEqual_55 h
theorem eX8_areEqual {Γ : Gm} {d : Nat} {σ : AH} {Q : Oc → AH → Prop} {v0 : Nat} {v1 : Int32} {v2 : Int32} (h : hs σ v0 = some (6, 17) ∧ CV Γ d MX8_checkCreated [.ref v0, .int v1] σ (fun σ1 => hs σ1 v0 = some (6, 17) ∧ CV Γ d MX8_checkCreated [.ref v0, .int v2] σ1 (fun σ4 => hs σ4 v0 = some (6, 17) ∧ CR Γ d MX8_familyOf [.ref v0, .int v1] σ4 (fun r8 σ7 => hs σ7 v0 = some (6, 17) ∧ CR Γ d MX8_familyOf [.ref v0, .int v2] σ7 (fun r11 σ10 => hs σ10 r8 = some (4, 3) ∧ hs σ10 r11 = some (4, 3) ∧ (((gi σ10 r8 1) ≠ (gi σ10 r11 1) → Q (.inl (some (.int 0))) σ10) ∧ ((gi σ10 r8 1) = (gi σ10 r11 1) → ∃ t16 : Nat, gr σ10 r8 0 = some t16 ∧ ∃ t18 : Nat, gr σ10 r11 0 = some t18 ∧ CI Γ d MX7_isInside [.ref t16, .ref t18] σ10 (fun r21 σ20 => ((r21 = 0 → Q (.inl (some (.int 0))) σ20) ∧ (¬ r21 = 0 → Q (.inl (some (.int 1))) σ20))) (fun _ _ => False)))) (fun E σ10 => Q (.inr E) σ10)) (fun E σ7 => Q (.inr E) σ7)) (fun E σ4 => Q (.inr E) σ4)) (fun E σ1 => Q (.inr E) σ1)) : RUN Γ d MX8_areEqual [.ref v0, .int v1, .int v2] σ Q :=
  EV.enter [some (.ref v0), some (.int v1), some (.int v2), none, none] rfl (by decide +kernel) (Nat.le_of_ble_eq_true rfl) rfl (gX8_areEqual_0 h)
