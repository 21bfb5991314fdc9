theorem gX8_init_0 {Γ : Gm} {d : Nat} {σ : AH} {Q : Oc → AH → Prop} {v0 : Nat} (h : 1 ≤ d ∧ ∀ (q2 : Nat) (σ3 : AH), q2 = lo Γ + hc σ → σ3 = mk σ q2 20 200 → hs σ3 v0 = some (6, 17) ∧ ∀ σ6 : AH, σ6 = setR σ3 v0 0 (some q2) → ∀ σ10 : AH, σ10 = setI σ6 v0 1 0 → ∀ σ14 : AH, σ14 = setI σ10 v0 2 (-1) → ∀ (q18 : Nat) (σ19 : AH), q18 = lo Γ + hc σ14 → σ19 = mk σ14 q18 20 1000 → hs σ19 v0 = some (6, 17) ∧ ∀ σ22 : AH, σ22 = setR σ19 v0 3 (some q18) → ∀ σ26 : AH, σ26 = setI σ22 v0 4 0 → ∀ (q30 : Nat) (σ31 : AH), q30 = lo Γ + hc σ26 → σ31 = mk σ26 q30 25 200 → hs σ31 v0 = some (6, 17) ∧ ∀ σ34 : AH, σ34 = setR σ31 v0 5 (some q30) → ∀ σ38 : AH, σ38 = setI σ34 v0 6 0 → ∀ σ42 : AH, σ42 = setI σ38 v0 7 0 → ∀ (q46 : Nat) (σ47 : AH), q46 = lo Γ + hc σ42 → σ47 = mk σ42 q46 22 4096 → hs σ47 v0 = some (6, 17) ∧ ∀ σ50 : AH, σ50 = setR σ47 v0 8 (some q46) → ∀ (q54 : Nat) (σ55 : AH), q54 = lo Γ + hc σ50 → σ55 = mk σ50 q54 22 4096 → hs σ55 v0 = some (6, 17) ∧ ∀ σ58 : AH, σ58 = setR σ55 v0 9 (some q54) → ∀ (q62 : Nat) (σ63 : AH), q62 = lo Γ + hc σ58 → σ63 = mk σ58 q62 0 4 → hs σ63 v0 = some (6, 17) ∧ ∃ t66 : Nat, gr σ63 v0 8 = some t66 ∧ ∃ t68 : Nat, gr σ63 v0 9 = some t68 ∧ CV Γ d MX0_init [.ref q62, .ref t66, .ref t68] σ63 (fun σ70 => hs σ70 v0 = some (6, 17) ∧ ∀ σ73 : AH, σ73 = setR σ70 v0 10 (some q62) → ∀ (q76 : Nat) (σ77 : AH), q76 = lo Γ + hc σ73 → σ77 = mk σ73 q76 3 8 → hs σ77 v0 = some (6, 17) ∧ ∃ t80 : Nat, gr σ77 v0 8 = some t80 ∧ CV Γ d MX3_init [.ref q76, .ref t80] σ77 (fun σ82 => hs σ82 v0 = some (6, 17) ∧ ∀ σ85 : AH, σ85 = setR σ82 v0 11 (some q76) → ∀ (q88 : Nat) (σ89 : AH), q88 = lo Γ + hc σ85 → σ89 = mk σ85 q88 5 10 → CV Γ d MX6_init [.ref q88] σ89 (fun σ91 => hs σ91 v0 = some (6, 17) ∧ ∀ σ94 : AH, σ94 = setR σ91 v0 12 (some q88) → ∀ (q97 : Nat) (σ98 : AH), q97 = lo Γ + hc σ94 → σ98 = mk σ94 q97 1 2 → CV Γ d MX1_init [.ref q97] σ98 (fun σ100 => hs σ100 v0 = some (6, 17) ∧ ∀ σ103 : AH, σ103 = setR σ100 v0 13 (some q97) → ∀ (q106 : Nat) (σ107 : AH), q106 = lo Γ + hc σ103 → σ107 = mk σ103 q106 2 3 → CV Γ d MX2_init [.ref q106] σ107 (fun σ109 => hs σ109 v0 = some (6, 17) ∧ ∀ σ112 : AH, σ112 = setR σ109 v0 14 (some q106) → ∀ (q115 : Nat) (σ116 : AH), q115 = lo Γ + hc σ112 → σ116 = mk σ112 q115 22 300 → hs σ116 v0 = some (6, 17) ∧ ∀ σ119 : AH, σ119 = setR σ116 v0 15 (some q115) → ∀ σ123 : AH, σ123 = setI σ119 v0 16 0 → Q (.inl none) σ123) (fun _ _ => False)) (fun _ _ => False)) (fun _ _ => False)) (fun _ _ => False)) (fun _ _ => False)) : EV Γ MX8_init d 0 [some (.ref v0)] [] σ Q := by
  refine EV.aload_n 1 rfl 0 rfl rfl dX8_init_0 ?_
  obtain ⟨z1, h⟩ := h
  refine EV.objInit 4 rfl oi_X8_1 z1 (Nat.le_of_ble_eq_true rfl) dX8_init_1 ?_
  refine EV.aload_n 5 rfl 0 rfl rfl dX8_init_4 ?_
  refine EV.sipush 8 rfl dX8_init_5 (v := 200) (by decide) ?_
  refine EV.newB 10 rfl (n := 200) ac_byte dX8_init_8 (by decide) (Nat.le_of_ble_eq_true rfl) (EV.nq (fun q2 σ3 eq2 eσ3 => ?_))
  have h := h q2 σ3 eq2 eσ3
  have w4 : hs σ3 q2 = some (20, 200) := by rw [eσ3]; exact up_same _ _ _
  obtain ⟨w5, h⟩ := h
  refine EV.putFR 13 rfl rfl ff_X8_9 rfl (by decide) dX8_init_10 w5 (EV.nm (fun σ6 e7 => ?_))
  have h := h σ6 e7
  have w8 := tr_hs (hs_setR_of e7) w4
  have w9 := tr_hs (hs_setR_of e7) w5
  refine EV.aload_n 14 rfl 0 rfl rfl dX8_init_13 ?_
  refine EV.iconst 15 rfl dX8_init_14 (v := 0) (by decide) ?_
  refine EV.putI 18 rfl fw_X8_13 rfl (by decide) dX8_init_15 w9 (EV.nm (fun σ10 e11 => ?_))
  have h := h σ10 e11
  have w12 := tr_hs (hs_setI_of e11) w8
  have w13 := tr_hs (hs_setI_of e11) w9
  refine EV.aload_n 19 rfl 0 rfl rfl dX8_init_18 ?_
  refine EV.iconst 20 rfl dX8_init_19 (v := (-1)) (by decide) ?_
  refine EV.putI 23 rfl fw_X8_17 rfl (by decide) dX8_init_20 w13 (EV.nm (fun σ14 e15 => ?_))
  have h := h σ14 e15
  have w16 := tr_hs (hs_setI_of e15) w12
  have w17 := tr_hs (hs_setI_of e15) w13
  refine EV.aload_n 24 rfl 0 rfl rfl dX8_init_23 ?_
  refine EV.sipush 27 rfl dX8_init_24 (v := 1000) (by decide) ?_
  refine EV.newB 29 rfl (n := 1000) ac_byte dX8_init_27 (by decide) (Nat.le_of_ble_eq_true rfl) (EV.nq (fun q18 σ19 eq18 eσ19 => ?_))
  have h := h q18 σ19 eq18 eσ19
  have w20 : hs σ19 q18 = some (20, 1000) := by rw [eσ19]; exact up_same _ _ _
  obtain ⟨w21, h⟩ := h
  refine EV.putFR 32 rfl rfl ff_X8_20 rfl (by decide) dX8_init_29 w21 (EV.nm (fun σ22 e23 => ?_))
  have h := h σ22 e23
  have w24 := tr_hs (hs_setR_of e23) w20
  have w25 := tr_hs (hs_setR_of e23) w21
  refine EV.aload_n 33 rfl 0 rfl rfl dX8_init_32 ?_
  refine EV.iconst 34 rfl dX8_init_33 (v := 0) (by decide) ?_
  refine EV.putI 37 rfl fw_X8_23 rfl (by decide) dX8_init_34 w25 (EV.nm (fun σ26 e27 => ?_))
  have h := h σ26 e27
  have w28 := tr_hs (hs_setI_of e27) w24
  have w29 := tr_hs (hs_setI_of e27) w25
  refine EV.aload_n 38 rfl 0 rfl rfl dX8_init_37 ?_
  refine EV.sipush 41 rfl dX8_init_38 (v := 200) (by decide) ?_
  refine EV.newF 44 rfl (n := 200) an_X8_26 ao_F dX8_init_41 (by decide) (Nat.le_of_ble_eq_true rfl) (EV.nq (fun q30 σ31 eq30 eσ31 => ?_))
  have h := h q30 σ31 eq30 eσ31
  have w32 : hs σ31 q30 = some (25, 200) := by rw [eσ31]; exact up_same _ _ _
  obtain ⟨w33, h⟩ := h
  refine EV.putFR 47 rfl rfl ff_X8_28 rfl (by decide) dX8_init_44 w33 (EV.nm (fun σ34 e35 => ?_))
  have h := h σ34 e35
  have w36 := tr_hs (hs_setR_of e35) w32
  have w37 := tr_hs (hs_setR_of e35) w33
  refine EV.aload_n 48 rfl 0 rfl rfl dX8_init_47 ?_
  refine EV.iconst 49 rfl dX8_init_48 (v := 0) (by decide) ?_
  refine EV.putI 52 rfl fw_X8_32 rfl (by decide) dX8_init_49 w37 (EV.nm (fun σ38 e39 => ?_))
  have h := h σ38 e39
  have w40 := tr_hs (hs_setI_of e39) w36
  have w41 := tr_hs (hs_setI_of e39) w37
  refine EV.aload_n 53 rfl 0 rfl rfl dX8_init_52 ?_
  refine EV.iconst 54 rfl dX8_init_53 (v := 0) (by decide) ?_
  refine EV.putI 57 rfl fw_X8_35 rfl (by decide) dX8_init_54 w41 (EV.nm (fun σ42 e43 => ?_))
  have h := h σ42 e43
  have w44 := tr_hs (hs_setI_of e43) w40
  have w45 := tr_hs (hs_setI_of e43) w41
  refine EV.aload_n 58 rfl 0 rfl rfl dX8_init_57 ?_
  refine EV.sipush 61 rfl dX8_init_58 (v := 4096) (by decide) ?_
  refine EV.newI 63 rfl (n := 4096) ac_int dX8_init_61 (by decide) (Nat.le_of_ble_eq_true rfl) (EV.nq (fun q46 σ47 eq46 eσ47 => ?_))
  have h := h q46 σ47 eq46 eσ47
  have w48 : hs σ47 q46 = some (22, 4096) := by rw [eσ47]; exact up_same _ _ _
  obtain ⟨w49, h⟩ := h
  refine EV.putFR 66 rfl rfl ff_X8_38 rfl (by decide) dX8_init_63 w49 (EV.nm (fun σ50 e51 => ?_))
  have h := h σ50 e51
  have w52 := tr_hs (hs_setR_of e51) w48
  have w53 := tr_hs (hs_setR_of e51) w49
  refine EV.aload_n 67 rfl 0 rfl rfl dX8_init_66 ?_
  refine EV.sipush 70 rfl dX8_init_67 (v := 4096) (by decide) ?_
  refine EV.newI 72 rfl (n := 4096) ac_int dX8_init_70 (by decide) (Nat.le_of_ble_eq_true rfl) (EV.nq (fun q54 σ55 eq54 eσ55 => ?_))
  have h := h q54 σ55 eq54 eσ55
  have w56 : hs σ55 q54 = some (22, 4096) := by rw [eσ55]; exact up_same _ _ _
  obtain ⟨w57, h⟩ := h
  refine EV.putFR 75 rfl rfl ff_X8_42 rfl (by decide) dX8_init_72 w57 (EV.nm (fun σ58 e59 => ?_))
  have h := h σ58 e59
  have w60 := tr_hs (hs_setR_of e59) w56
  have w61 := tr_hs (hs_setR_of e59) w57
  refine EV.aload_n 76 rfl 0 rfl rfl dX8_init_75 ?_
  refine EV.new 79 rfl nl_X8_45 (n := 4) rfl dX8_init_76 (EV.nq (fun q62 σ63 eq62 eσ63 => ?_))
  have h := h q62 σ63 eq62 eσ63
  have w64 : hs σ63 q62 = some (0, 4) := by rw [eσ63]; exact up_same _ _ _
  refine EV.dup 80 rfl dX8_init_79 rfl ?_
  refine EV.aload_n 81 rfl 0 rfl rfl dX8_init_80 ?_
  obtain ⟨w65, h⟩ := h
  obtain ⟨t66, g67, h⟩ := h
  refine EV.getR 84 rfl fl_X8_38 rfl dX8_init_81 w65 g67 ?_
  refine EV.aload_n 85 rfl 0 rfl rfl dX8_init_84 ?_
  obtain ⟨t68, g69, h⟩ := h
  refine EV.getR 88 rfl fl_X8_42 rfl dX8_init_85 w65 g69 ?_
  refine EV.cI rfl lk_X8_47 rfl rfl (vs := [.ref t66, .ref t68]) (st := [.ref q62, .ref v0]) rfl rfl (Nat.le_of_ble_eq_true rfl) dX8_init_88 h (fun  σ70 h => ?_)
  obtain ⟨w72, h⟩ := h
  refine EV.putFR 94 rfl rfl ff_X8_50 rfl (by decide) dX8_init_91 w72 (EV.nm (fun σ73 e74 => ?_))
  have h := h σ73 e74
  have w75 := tr_hs (hs_setR_of e74) w72
  refine EV.aload_n 95 rfl 0 rfl rfl dX8_init_94 ?_
  refine EV.new 98 rfl nl_X8_54 (n := 8) rfl dX8_init_95 (EV.nq (fun q76 σ77 eq76 eσ77 => ?_))
  have h := h q76 σ77 eq76 eσ77
  have w78 : hs σ77 q76 = some (3, 8) := by rw [eσ77]; exact up_same _ _ _
  refine EV.dup 99 rfl dX8_init_98 rfl ?_
  refine EV.aload_n 100 rfl 0 rfl rfl dX8_init_99 ?_
  obtain ⟨w79, h⟩ := h
  obtain ⟨t80, g81, h⟩ := h
  refine EV.getR 103 rfl fl_X8_38 rfl dX8_init_100 w79 g81 ?_
  refine EV.cI rfl lk_X8_56 rfl rfl (vs := [.ref t80]) (st := [.ref q76, .ref v0]) rfl rfl (Nat.le_of_ble_eq_true rfl) dX8_init_103 h (fun  σ82 h => ?_)
  obtain ⟨w84, h⟩ := h
  refine EV.putFR 109 rfl rfl ff_X8_59 rfl (by decide) dX8_init_106 w84 (EV.nm (fun σ85 e86 => ?_))
  have h := h σ85 e86
  have w87 := tr_hs (hs_setR_of e86) w84
  refine EV.aload_n 110 rfl 0 rfl rfl dX8_init_109 ?_
  refine EV.new 113 rfl nl_X8_63 (n := 10) rfl dX8_init_110 (EV.nq (fun q88 σ89 eq88 eσ89 => ?_))
  have h := h q88 σ89 eq88 eσ89
  have w90 : hs σ89 q88 = some (5, 10) := by rw [eσ89]; exact up_same _ _ _
  refine EV.dup 114 rfl dX8_init_113 rfl ?_
  refine EV.cIN rfl lk_X8_65 rfl rfl (vs := []) (st := [.ref q88, .ref v0]) rfl rfl (Nat.le_of_ble_eq_true rfl) dX8_init_114 h (fun  σ91 h => ?_)
  obtain ⟨w93, h⟩ := h
  refine EV.putFR 120 rfl rfl ff_X8_66 rfl (by decide) dX8_init_117 w93 (EV.nm (fun σ94 e95 => ?_))
  have h := h σ94 e95
  have w96 := tr_hs (hs_setR_of e95) w93
  refine EV.aload_n 121 rfl 0 rfl rfl dX8_init_120 ?_
  refine EV.new 124 rfl nl_X8_70 (n := 2) rfl dX8_init_121 (EV.nq (fun q97 σ98 eq97 eσ98 => ?_))
  have h := h q97 σ98 eq97 eσ98
  have w99 : hs σ98 q97 = some (1, 2) := by rw [eσ98]; exact up_same _ _ _
  refine EV.dup 125 rfl dX8_init_124 rfl ?_
  refine EV.cIN rfl lk_X8_72 rfl rfl (vs := []) (st := [.ref q97, .ref v0]) rfl rfl (Nat.le_of_ble_eq_true rfl) dX8_init_125 h (fun  σ100 h => ?_)
  obtain ⟨w102, h⟩ := h
  refine EV.putFR 131 rfl rfl ff_X8_73 rfl (by decide) dX8_init_128 w102 (EV.nm (fun σ103 e104 => ?_))
  have h := h σ103 e104
  have w105 := tr_hs (hs_setR_of e104) w102
  refine EV.aload_n 132 rfl 0 rfl rfl dX8_init_131 ?_
  refine EV.new 135 rfl nl_X8_77 (n := 3) rfl dX8_init_132 (EV.nq (fun q106 σ107 eq106 eσ107 => ?_))
  have h := h q106 σ107 eq106 eσ107
  have w108 : hs σ107 q106 = some (2, 3) := by rw [eσ107]; exact up_same _ _ _
  refine EV.dup 136 rfl dX8_init_135 rfl ?_
  refine EV.cIN rfl lk_X8_79 rfl rfl (vs := []) (st := [.ref q106, .ref v0]) rfl rfl (Nat.le_of_ble_eq_true rfl) dX8_init_136 h (fun  σ109 h => ?_)
  obtain ⟨w111, h⟩ := h
  refine EV.putFR 142 rfl rfl ff_X8_80 rfl (by decide) dX8_init_139 w111 (EV.nm (fun σ112 e113 => ?_))
  have h := h σ112 e113
  have w114 := tr_hs (hs_setR_of e113) w111
  refine EV.aload_n 143 rfl 0 rfl rfl dX8_init_142 ?_
  refine EV.sipush 146 rfl dX8_init_143 (v := 300) (by decide) ?_
  refine EV.newI 148 rfl (n := 300) ac_int dX8_init_146 (by decide) (Nat.le_of_ble_eq_true rfl) (EV.nq (fun q115 σ116 eq115 eσ116 => ?_))
  have h := h q115 σ116 eq115 eσ116
  have w117 : hs σ116 q115 = some (22, 300) := by rw [eσ116]; exact up_same _ _ _
  obtain ⟨w118, h⟩ := h
  refine EV.putFR 151 rfl rfl ff_X8_84 rfl (by decide) dX8_init_148 w118 (EV.nm (fun σ119 e120 => ?_))
  have h := h σ119 e120
  have w121 := tr_hs (hs_setR_of e120) w117
  have w122 := tr_hs (hs_setR_of e120) w118
  refine EV.aload_n 152 rfl 0 rfl rfl dX8_init_151 ?_
  refine EV.iconst 153 rfl dX8_init_152 (v := 0) (by decide) ?_
  refine EV.putI 156 rfl fw_X8_87 rfl (by decide) dX8_init_153 w122 (EV.nm (fun σ123 e124 => ?_))
  have h := h σ123 e124
  have w125 := tr_hs (hs_setI_of e124) w121
  have w126 := tr_hs (hs_setI_of e124) w122
  exact EV.vret rfl dX8_init_156 h
theorem eX8_init {Γ : Gm} {d : Nat} {σ : AH} {Q : Oc → AH → Prop} {v0 : Nat} (h : 1 ≤ d ∧ ∀ (q2 : Nat) (σ3 : AH), q2 = lo Γ + hc σ → σ3 = mk σ q2 20 200 → hs σ3 v0 = some (6, 17) ∧ ∀ σ6 : AH, σ6 = setR σ3 v0 0 (some q2) → ∀ σ10 : AH, σ10 = setI σ6 v0 1 0 → ∀ σ14 : AH, σ14 = setI σ10 v0 2 (-1) → ∀ (q18 : Nat) (σ19 : AH), q18 = lo Γ + hc σ14 → σ19 = mk σ14 q18 20 1000 → hs σ19 v0 = some (6, 17) ∧ ∀ σ22 : AH, σ22 = setR σ19 v0 3 (some q18) → ∀ σ26 : AH, σ26 = setI σ22 v0 4 0 → ∀ (q30 : Nat) (σ31 : AH), q30 = lo Γ + hc σ26 → σ31 = mk σ26 q30 25 200 → hs σ31 v0 = some (6, 17) ∧ ∀ σ34 : AH, σ34 = setR σ31 v0 5 (some q30) → ∀ σ38 : AH, σ38 = setI σ34 v0 6 0 → ∀ σ42 : AH, σ42 = setI σ38 v0 7 0 → ∀ (q46 : Nat) (σ47 : AH), q46 = lo Γ + hc σ42 → σ47 = mk σ42 q46 22 4096 → hs σ47 v0 = some (6, 17) ∧ ∀ σ50 : AH, σ50 = setR σ47 v0 8 (some q46) → ∀ (q54 : Nat) (σ55 : AH), q54 = lo Γ + hc σ50 → σ55 = mk σ50 q54 22 4096 → hs σ55 v0 = some (6, 17) ∧ ∀ σ58 : AH, σ58 = setR σ55 v0 9 (some q54) → ∀ (q62 : Nat) (σ63 : AH), q62 = lo Γ + hc σ58 → σ63 = mk σ58 q62 0 4 → hs σ63 v0 = some (6, 17) ∧ ∃ t66 : Nat, gr σ63 v0 8 = some t66 ∧ ∃ t68 : Nat, gr σ63 v0 9 = some t68 ∧ CV Γ d MX0_init [.ref q62, .ref t66, .ref t68] σ63 (fun σ70 => hs σ70 v0 = some (6, 17) ∧ ∀ σ73 : AH, σ73 = setR σ70 v0 10 (some q62) → ∀ (q76 : Nat) (σ77 : AH), q76 = lo Γ + hc σ73 → σ77 = mk σ73 q76 3 8 → hs σ77 v0 = some (6, 17) ∧ ∃ t80 : Nat, gr σ77 v0 8 = some t80 ∧ CV Γ d MX3_init [.ref q76, .ref t80] σ77 (fun σ82 => hs σ82 v0 = some (6, 17) ∧ ∀ σ85 : AH, σ85 = setR σ82 v0 11 (some q76) → ∀ (q88 : Nat) (σ89 : AH), q88 = lo Γ + hc σ85 → σ89 = mk σ85 q88 5 10 → CV Γ d MX6_init [.ref q88] σ89 (fun σ91 => hs σ91 v0 = some (6, 17) ∧ ∀ σ94 : AH, σ94 = setR σ91 v0 12 (some q88) → ∀ (q97 : Nat) (σ98 : AH), q97 = lo Γ + hc σ94 → σ98 = mk σ94 q97 1 2 → CV Γ d MX1_init [.ref q97] σ98 (fun σ100 => hs σ100 v0 = some (6, 17) ∧ ∀ σ103 : AH, σ103 = setR σ100 v0 13 (some q97) → ∀ (q106 : Nat) (σ107 : AH), q106 = lo Γ + hc σ103 → σ107 = mk σ103 q106 2 3 → CV Γ d MX2_init [.ref q106] σ107 (fun σ109 => hs σ109 v0 = some (6, 17) ∧ ∀ σ112 : AH, σ112 = setR σ109 v0 14 (some q106) → ∀ (q115 : Nat) (σ116 : AH), q115 = lo Γ + hc σ112 → σ116 = mk σ112 q115 22 300 → hs σ116 v0 = some (6, 17) ∧ ∀ σ119 : AH, σ119 = setR σ116 v0 15 (some q115) → ∀ σ123 : AH, σ123 = setI σ119 v0 16 0 → Q (.inl none) σ123) (fun _ _ => False)) (fun _ _ => False)) (fun _ _ => False)) (fun _ _ => False)) (fun _ _ => False)) : RUN Γ d MX8_init [.ref v0] σ Q :=
  EV.enter [some (.ref v0)] rfl (by decide +kernel) (Nat.le_of_ble_eq_true rfl) rfl (gX8_init_0 h)
theorem gX8_feed_0 {Γ : Gm} {d : Nat} {σ : AH} {Q : Oc → AH → Prop} {v0 : Nat} {v1 : Int32} {v2 : Int32} {v3 : Int32} {v4 : Int32} {v5 : Int32} (h : hs σ v0 = some (6, 17) ∧ ((((gi σ v0 1) + 20) ≤ 200 → CV Γ d MX8_appendBytes [.ref v0, .int v1] σ (fun σ3 => hs σ3 v0 = some (6, 17) ∧ CV Γ d MX8_appendBytes [.ref v0, .int v2] σ3 (fun σ5 => hs σ5 v0 = some (6, 17) ∧ CV Γ d MX8_appendBytes [.ref v0, .int v3] σ5 (fun σ8 => hs σ8 v0 = some (6, 17) ∧ CV Γ d MX8_appendBytes [.ref v0, .int v4] σ8 (fun σ11 => hs σ11 v0 = some (6, 17) ∧ CV Γ d MX8_appendBytes [.ref v0, .int v5] σ11 (fun σ14 => hs σ14 v0 = some (6, 17) ∧ Q (.inl (some (.int (gi σ14 v0 1)))) σ14) (fun E σ14 => Q (.inr E) σ14)) (fun E σ11 => Q (.inr E) σ11)) (fun E σ8 => Q (.inr E) σ8)) (fun E σ5 => Q (.inr E) σ5)) (fun E σ3 => Q (.inr E) σ3)) ∧ (¬ ((gi σ v0 1) + 20) ≤ 200 → 6 ≤ d ∧ Q (.inr "java/lang/IllegalStateException") (thr σ)))) : EV Γ MX8_feed d 0 [some (.ref v0), some (.int v1), some (.int v2), some (.int v3), some (.int v4), some (.int v5)] [] σ Q := by
  refine EV.aload_n 1 rfl 0 rfl rfl dX8_feed_0 ?_
  obtain ⟨w1, h⟩ := h
  refine EV.getI 4 rfl fl_X8_13 rfl dX8_feed_1 w1 ?_
  refine EV.bipush 6 rfl dX8_feed_4 (v := 20) (by decide) ?_
  refine EV.iadd 7 rfl dX8_feed_6 ?_
  refine EV.sipush 10 rfl dX8_feed_7 (v := 200) (by decide) ?_
  refine EV.icmp_le 13 21 rfl (by decide) dX8_feed_10 (fun c2 => ?_) (fun c2 => ?_)
  · have h := h.1 c2
    refine EV.aload_n 22 rfl 0 rfl rfl dX8_feed_21 ?_
    refine EV.iload_n 23 rfl 1 rfl rfl dX8_feed_22 ?_
    refine EV.cV rfl rfl lk_X8_93 rfl (vs := [.int v1]) (st := []) rfl rfl (Nat.le_of_ble_eq_true rfl) dX8_feed_23 w1 h (fun v σ3 h => ?_)
    obtain ⟨rfl, h⟩ := h
    show EV Γ MX8_feed d 26 [some (.ref v0), some (.int v1), some (.int v2), some (.int v3), some (.int v4), some (.int v5)] [] σ3 Q
    refine EV.aload_n 27 rfl 0 rfl rfl dX8_feed_26 ?_
    refine EV.iload_n 28 rfl 2 rfl rfl dX8_feed_27 ?_
    obtain ⟨w7, h⟩ := h
    refine EV.cV rfl rfl lk_X8_93 rfl (vs := [.int v2]) (st := []) rfl rfl (Nat.le_of_ble_eq_true rfl) dX8_feed_28 w7 h (fun v σ5 h => ?_)
    obtain ⟨rfl, h⟩ := h
    show EV Γ MX8_feed d 31 [some (.ref v0), some (.int v1), some (.int v2), some (.int v3), some (.int v4), some (.int v5)] [] σ5 Q
    refine EV.aload_n 32 rfl 0 rfl rfl dX8_feed_31 ?_
    refine EV.iload_n 33 rfl 3 rfl rfl dX8_feed_32 ?_
    obtain ⟨w10, h⟩ := h
    refine EV.cV rfl rfl lk_X8_93 rfl (vs := [.int v3]) (st := []) rfl rfl (Nat.le_of_ble_eq_true rfl) dX8_feed_33 w10 h (fun v σ8 h => ?_)
    obtain ⟨rfl, h⟩ := h
    show EV Γ MX8_feed d 36 [some (.ref v0), some (.int v1), some (.int v2), some (.int v3), some (.int v4), some (.int v5)] [] σ8 Q
    refine EV.aload_n 37 rfl 0 rfl rfl dX8_feed_36 ?_
    refine EV.iload 39 rfl rfl dX8_feed_37 ?_
    obtain ⟨w13, h⟩ := h
    refine EV.cV rfl rfl lk_X8_93 rfl (vs := [.int v4]) (st := []) rfl rfl (Nat.le_of_ble_eq_true rfl) dX8_feed_39 w13 h (fun v σ11 h => ?_)
    obtain ⟨rfl, h⟩ := h
    show EV Γ MX8_feed d 42 [some (.ref v0), some (.int v1), some (.int v2), some (.int v3), some (.int v4), some (.int v5)] [] σ11 Q
    refine EV.aload_n 43 rfl 0 rfl rfl dX8_feed_42 ?_
    refine EV.iload 45 rfl rfl dX8_feed_43 ?_
    obtain ⟨w16, h⟩ := h
    refine EV.cV rfl rfl lk_X8_93 rfl (vs := [.int v5]) (st := []) rfl rfl (Nat.le_of_ble_eq_true rfl) dX8_feed_45 w16 h (fun v σ14 h => ?_)
    obtain ⟨rfl, h⟩ := h
    show EV Γ MX8_feed d 48 [some (.ref v0), some (.int v1), some (.int v2), some (.int v3), some (.int v4), some (.int v5)] [] σ14 Q
    refine EV.aload_n 49 rfl 0 rfl rfl dX8_feed_48 ?_
    obtain ⟨w17, h⟩ := h
    refine EV.getI 52 rfl fl_X8_13 rfl dX8_feed_49 w17 ?_
    exact EV.iret rfl dX8_feed_52 h
  · have h := h.2 c2
    obtain ⟨z18, h⟩ := h
    exact EV.throw0 rfl th_X8_90 z18 dX8_feed_13 dX8_feed_16 dX8_feed_17 dX8_feed_20 h
theorem eX8_feed {Γ : Gm} {d : Nat} {σ : AH} {Q : Oc → AH → Prop} {v0 : Nat} {v1 : Int32} {v2 : Int32} {v3 : Int32} {v4 : Int32} {v5 : Int32} (h : hs σ v0 = some (6, 17) ∧ ((((gi σ v0 1) + 20) ≤ 200 → CV Γ d MX8_appendBytes [.ref v0, .int v1] σ (fun σ3 => hs σ3 v0 = some (6, 17) ∧ CV Γ d MX8_appendBytes [.ref v0, .int v2] σ3 (fun σ5 => hs σ5 v0 = some (6, 17) ∧ CV Γ d MX8_appendBytes [.ref v0, .int v3] σ5 (fun σ8 => hs σ8 v0 = some (6, 17) ∧ CV Γ d MX8_appendBytes [.ref v0, .int v4] σ8 (fun σ11 => hs σ11 v0 = some (6, 17) ∧ CV Γ d MX8_appendBytes [.ref v0, .int v5] σ11 (fun σ14 => hs σ14 v0 = some (6, 17) ∧ Q (.inl (some (.int (gi σ14 v0 1)))) σ14) (fun E σ14 => Q (.inr E) σ14)) (fun E σ11 => Q (.inr E) σ11)) (fun E σ8 => Q (.inr E) σ8)) (fun E σ5 => Q (.inr E) σ5)) (fun E σ3 => Q (.inr E) σ3)) ∧ (¬ ((gi σ v0 1) + 20) ≤ 200 → 6 ≤ d ∧ Q (.inr "java/lang/IllegalStateException") (thr σ)))) : RUN Γ d MX8_feed [.ref v0, .int v1, .int v2, .int v3, .int v4, .int v5] σ Q :=
  EV.enter [some (.ref v0), some (.int v1), some (.int v2), some (.int v3), some (.int v4), some (.int v5)] rfl (by decide +kernel) (Nat.le_of_ble_eq_true rfl) rfl (gX8_feed_0 h)
theorem gX8_appendBytes_0 {Γ : Gm} {d : Nat} {σ : AH} {Q : Oc → AH → Prop} {v0 : Nat} {v1 : Int32} (h : EV Γ MX8_appendBytes d 3 [some (.ref v0), some (.int v1), some (.int 24)] [] σ Q) : EV Γ MX8_appendBytes d 0 [some (.ref v0), some (.int v1), none] [] σ Q := by
  refine EV.bipush 2 rfl dX8_appendBytes_0 (v := 24) (by decide) ?_
  refine EV.istore_n 3 rfl 2 [some (.ref v0), some (.int v1), some (.int 24)] rfl (by decide) rfl dX8_appendBytes_2 ?_
  exact h
theorem eX8_appendBytes {Γ : Gm} {d : Nat} {σ : AH} {Q : Oc → AH → Prop} {v0 : Nat} {v1 : Int32} (h : EV Γ MX8_appendBytes d 3 [some (.ref v0), some (.int v1), some (.int 24)] [] σ Q) : RUN Γ d MX8_appendBytes [.ref v0, .int v1] σ Q :=
  EV.enter [some (.ref v0), some (.int v1), none] rfl (by decide +kernel) (Nat.le_of_ble_eq_true rfl) rfl (gX8_appendBytes_0 h)
theorem gX8_appendBytes_3 {Γ : Gm} {d : Nat} {σ : AH} {Q : Oc → AH → Prop} {v0 : Nat} {v1 : Int32} {v2 : Int32} (h : ((v2 < 0 → Q (.inl none) σ) ∧ (¬ v2 < 0 → hs σ v0 = some (6, 17) ∧ ((200 ≤ (gi σ v0 1) → EV Γ MX8_appendBytes d 3 [some (.ref v0), some (.int v1), some (.int (v2 + (-8)))] [] σ Q) ∧ (¬ 200 ≤ (gi σ v0 1) → ∃ t4 : Nat, gr σ v0 0 = some t4 ∧ ∃ n7 : Nat, hs σ t4 = some (20, n7) ∧ ∃ j8 : Nat, IX (gi σ v0 1) n7 j8 ∧ ∀ σ10 : AH, σ10 = setI σ t4 j8 (vp_nar .byte (Int8.toInt32 (Int32.toInt8 ((v1.toUInt32 >>> (Int32.toUInt32 v2 &&& Int32.toUInt32 31)).toInt32)))) → ∀ σ15 : AH, σ15 = setI σ10 v0 1 ((gi σ10 v0 1) + 1) → EV Γ MX8_appendBytes d 3 [some (.ref v0), some (.int v1), some (.int (v2 + (-8)))] [] σ15 Q))))) : EV Γ MX8_appendBytes d 3 [some (.ref v0), some (.int v1), some (.int v2)] [] σ Q := by
  refine EV.iload_n 4 rfl 2 rfl rfl dX8_appendBytes_3 ?_
  refine EV.if_lt 7 46 rfl (by decide) dX8_appendBytes_4 (fun c1 => ?_) (fun c1 => ?_)
  · have h := h.1 c1
    exact EV.vret rfl dX8_appendBytes_46 h
  · have h := h.2 c1
    refine EV.aload_n 8 rfl 0 rfl rfl dX8_appendBytes_7 ?_
    obtain ⟨w2, h⟩ := h
    refine EV.getI 11 rfl fl_X8_13 rfl dX8_appendBytes_8 w2 ?_
    refine EV.sipush 14 rfl dX8_appendBytes_11 (v := 200) (by decide) ?_
    refine EV.icmp_ge 17 40 rfl (by decide) dX8_appendBytes_14 (fun c3 => ?_) (fun c3 => ?_)
    · have h := h.1 c3
      refine EV.iinc 43 rfl [some (.ref v0), some (.int v1), some (.int (v2 + (-8)))] (v := (-8)) (by decide) (by decide) rfl rfl dX8_appendBytes_40 ?_
      refine EV.goto 3 (by decide) dX8_appendBytes_43 ?_
      exact h
    · have h := h.2 c3
      refine EV.aload_n 18 rfl 0 rfl rfl dX8_appendBytes_17 ?_
      obtain ⟨t4, g5, h⟩ := h
      refine EV.getR 21 rfl fl_X8_9 rfl dX8_appendBytes_18 w2 g5 ?_
      refine EV.aload_n 22 rfl 0 rfl rfl dX8_appendBytes_21 ?_
      refine EV.getI 25 rfl fl_X8_13 rfl dX8_appendBytes_22 w2 ?_
      refine EV.iload_n 26 rfl 1 rfl rfl dX8_appendBytes_25 ?_
      refine EV.iload_n 27 rfl 2 rfl rfl dX8_appendBytes_26 ?_
      refine EV.iushr 28 rfl dX8_appendBytes_27 ?_
      refine EV.i2b 29 rfl dX8_appendBytes_28 ?_
      obtain ⟨n7, w6, h⟩ := h
      obtain ⟨j8, x9, h⟩ := h
      refine EV.bast 30 rfl dX8_appendBytes_29 w6 x9 (EV.nm (fun σ10 e11 => ?_))
      have h := h σ10 e11
      have w12 := tr_hs (hs_setI_of e11) w2
      have w13 := tr_hs (hs_setI_of e11) w6
      have g14 := tr_gr (gr_setI_of e11) g5
      refine EV.aload_n 31 rfl 0 rfl rfl dX8_appendBytes_30 ?_
      refine EV.dup 32 rfl dX8_appendBytes_31 rfl ?_
      refine EV.getI 35 rfl fl_X8_13 rfl dX8_appendBytes_32 w12 ?_
      refine EV.iconst 36 rfl dX8_appendBytes_35 (v := 1) (by decide) ?_
      refine EV.iadd 37 rfl dX8_appendBytes_36 ?_
      refine EV.putI 40 rfl fw_X8_13 rfl (by decide) dX8_appendBytes_37 w12 (EV.nm (fun σ15 e16 => ?_))
      have h := h σ15 e16
      have w17 := tr_hs (hs_setI_of e16) w12
      have w18 := tr_hs (hs_setI_of e16) w13
      have g19 := tr_gr (gr_setI_of e16) g14
      refine EV.iinc 43 rfl [some (.ref v0), some (.int v1), some (.int (v2 + (-8)))] (v := (-8)) (by decide) (by decide) rfl rfl dX8_appendBytes_40 ?_
      refine EV.goto 3 (by decide) dX8_appendBytes_43 ?_
      exact h
theorem gX8_trim_0 {Γ : Gm} {d : Nat} {σ : AH} {Q : Oc → AH → Prop} {v0 : Nat} {v1 : Int32} (h : ((v1 < 0 → EV Γ MX8_trim d 12 [none, none] [] σ Q) ∧ (¬ v1 < 0 → hs σ v0 = some (6, 17) ∧ ((v1 ≤ (gi σ v0 1) → ∀ σ4 : AH, σ4 = setI σ v0 1 v1 → Q (.inl (some (.int v1))) σ4) ∧ (¬ v1 ≤ (gi σ v0 1) → EV Γ MX8_trim d 12 [none, none] [] σ Q))))) : EV Γ MX8_trim d 0 [some (.ref v0), some (.int v1)] [] σ Q := by
  refine EV.iload_n 1 rfl 1 rfl rfl dX8_trim_0 ?_
  refine EV.if_lt 4 12 rfl (by decide) dX8_trim_1 (fun c1 => ?_) (fun c1 => ?_)
  · have h := h.1 c1
    refine EV.mask [false, false] (L' := [none, none]) rfl ?_
    exact h
  · have h := h.2 c1
    refine EV.iload_n 5 rfl 1 rfl rfl dX8_trim_4 ?_
    refine EV.aload_n 6 rfl 0 rfl rfl dX8_trim_5 ?_
    obtain ⟨w2, h⟩ := h
    refine EV.getI 9 rfl fl_X8_13 rfl dX8_trim_6 w2 ?_
    refine EV.icmp_le 12 20 rfl (by decide) dX8_trim_9 (fun c3 => ?_) (fun c3 => ?_)
    · have h := h.1 c3
      refine EV.aload_n 21 rfl 0 rfl rfl dX8_trim_20 ?_
      refine EV.iload_n 22 rfl 1 rfl rfl dX8_trim_21 ?_
      refine EV.putI 25 rfl fw_X8_13 rfl (by decide) dX8_trim_22 w2 (EV.nm (fun σ4 e5 => ?_))
      have h := h σ4 e5
      have w6 := tr_hs (hs_setI_of e5) w2
      refine EV.iload_n 26 rfl 1 rfl rfl dX8_trim_25 ?_
      exact EV.iret rfl dX8_trim_26 h
    · have h := h.2 c3
      refine EV.mask [false, false] (L' := [none, none]) rfl ?_
      exact h
theorem eX8_trim {Γ : Gm} {d : Nat} {σ : AH} {Q : Oc → AH → Prop} {v0 : Nat} {v1 : Int32} (h : ((v1 < 0 → EV Γ MX8_trim d 12 [none, none] [] σ Q) ∧ (¬ v1 < 0 → hs σ v0 = some (6, 17) ∧ ((v1 ≤ (gi σ v0 1) → ∀ σ4 : AH, σ4 = setI σ v0 1 v1 → Q (.inl (some (.int v1))) σ4) ∧ (¬ v1 ≤ (gi σ v0 1) → EV Γ MX8_trim d 12 [none, none] [] σ Q))))) : RUN Γ d MX8_trim [.ref v0, .int v1] σ Q :=
  EV.enter [some (.ref v0), some (.int v1)] rfl (by decide +kernel) (Nat.le_of_ble_eq_true rfl) rfl (gX8_trim_0 h)
theorem gX8_trim_12 {Γ : Gm} {d : Nat} {σ : AH} {Q : Oc → AH → Prop} (h : 6 ≤ d ∧ Q (.inr "java/lang/IllegalArgumentException") (thr σ)) : EV Γ MX8_trim d 12 [none, none] [] σ Q := by
  obtain ⟨z1, h⟩ := h
  exact EV.throw0 rfl th_X8_97 z1 dX8_trim_12 dX8_trim_15 dX8_trim_16 dX8_trim_19 h
theorem gX8_evaluate_0 {Γ : Gm} {d : Nat} {σ : AH} {Q : Oc → AH → Prop} {v0 : Nat} (h : hs σ v0 = some (6, 17) ∧ ∃ t2 : Nat, gr σ v0 12 = some t2 ∧ ∃ t4 : Nat, gr σ v0 0 = some t4 ∧ ∃ t6 : Nat, gr σ v0 5 = some t6 ∧ hs σ t2 = some (5, 10) ∧ CI Γ d MX6_read [.ref t2, .ref t4, .int (gi σ v0 1), .ref t6] σ (fun r9 σ8 => hs σ8 v0 = some (6, 17) ∧ ∀ σ12 : AH, σ12 = setI σ8 v0 2 r9 → ∀ σ15 : AH, σ15 = setI σ12 v0 1 0 → (((gi σ15 v0 2) < 0 → CV Γ d MX8_checkRoom [.ref v0] σ15 (fun σ19 => hs σ19 v0 = some (6, 17) ∧ ∃ t22 : Nat, gr σ19 v0 13 = some t22 ∧ ∃ t24 : Nat, gr σ19 v0 12 = some t24 ∧ ∃ t26 : Nat, gr σ19 v0 5 = some t26 ∧ ∃ t28 : Nat, gr σ19 v0 10 = some t28 ∧ hs σ19 t22 = some (1, 2) ∧ CQ Γ d MX1_run [.ref t22, .ref t24, .ref t26, .ref t28] σ19 (fun r31 σ30 => ((r31 = none → 6 ≤ d ∧ Q (.inr "java/lang/ArithmeticException") (thr σ30)) ∧ (∀ t33 : Nat, r31 = some t33 → CR Γ d MJ7_copyOf_c38d5 [.ref t33, .int 64] σ30 (fun r36 σ35 => hs σ35 v0 = some (6, 17) ∧ CI Γ d MX8_addFamily [.ref v0, .ref r36] σ35 (fun r38 σ37 => Q (.inl (some (.int r38))) σ37) (fun E σ37 => Q (.inr E) σ37)) (fun _ _ => False)))) (fun E σ30 => Q (.inr E) σ30)) (fun E σ19 => Q (.inr E) σ19)) ∧ (¬ (gi σ15 v0 2) < 0 → 6 ≤ d ∧ Q (.inr "java/lang/IllegalArgumentException") (thr σ15)))) (fun E σ8 => Q (.inr E) σ8)) : EV Γ MX8_evaluate d 0 [some (.ref v0), none] [] σ Q := by
  refine EV.aload_n 1 rfl 0 rfl rfl dX8_evaluate_0 ?_
  refine EV.aload_n 2 rfl 0 rfl rfl dX8_evaluate_1 ?_
  obtain ⟨w1, h⟩ := h
  obtain ⟨t2, g3, h⟩ := h
  refine EV.getR 5 rfl fl_X8_66 rfl dX8_evaluate_2 w1 g3 ?_
  refine EV.aload_n 6 rfl 0 rfl rfl dX8_evaluate_5 ?_
  obtain ⟨t4, g5, h⟩ := h
  refine EV.getR 9 rfl fl_X8_9 rfl dX8_evaluate_6 w1 g5 ?_
  refine EV.aload_n 10 rfl 0 rfl rfl dX8_evaluate_9 ?_
  refine EV.getI 13 rfl fl_X8_13 rfl dX8_evaluate_10 w1 ?_
  refine EV.aload_n 14 rfl 0 rfl rfl dX8_evaluate_13 ?_
  obtain ⟨t6, g7, h⟩ := h
  refine EV.getR 17 rfl fl_X8_28 rfl dX8_evaluate_14 w1 g7 ?_
  obtain ⟨w10, h⟩ := h
  refine EV.cV rfl rfl lk_X8_100 rfl (vs := [.ref t4, .int (gi σ v0 1), .ref t6]) (st := [.ref v0]) rfl rfl (Nat.le_of_ble_eq_true rfl) dX8_evaluate_17 w10 h (fun v σ8 h => ?_)
  obtain ⟨r9, rfl, h⟩ := h
  show EV Γ MX8_evaluate d 20 [some (.ref v0), none] [.int r9, .ref v0] σ8 Q
  obtain ⟨w11, h⟩ := h
  refine EV.putI 23 rfl fw_X8_17 rfl (by decide) dX8_evaluate_20 w11 (EV.nm (fun σ12 e13 => ?_))
  have h := h σ12 e13
  have w14 := tr_hs (hs_setI_of e13) w11
  refine EV.aload_n 24 rfl 0 rfl rfl dX8_evaluate_23 ?_
  refine EV.iconst 25 rfl dX8_evaluate_24 (v := 0) (by decide) ?_
  refine EV.putI 28 rfl fw_X8_13 rfl (by decide) dX8_evaluate_25 w14 (EV.nm (fun σ15 e16 => ?_))
  have h := h σ15 e16
  have w17 := tr_hs (hs_setI_of e16) w14
  refine EV.aload_n 29 rfl 0 rfl rfl dX8_evaluate_28 ?_
  refine EV.getI 32 rfl fl_X8_17 rfl dX8_evaluate_29 w17 ?_
  refine EV.if_lt 35 43 rfl (by decide) dX8_evaluate_32 (fun c18 => ?_) (fun c18 => ?_)
  · have h := h.1 c18
    refine EV.aload_n 44 rfl 0 rfl rfl dX8_evaluate_43 ?_
    refine EV.cV rfl rfl lk_X8_104 rfl (vs := []) (st := []) rfl rfl (Nat.le_of_ble_eq_true rfl) dX8_evaluate_44 w17 h (fun v σ19 h => ?_)
    obtain ⟨rfl, h⟩ := h
    show EV Γ MX8_evaluate d 47 [some (.ref v0), none] [] σ19 Q
    refine EV.aload_n 48 rfl 0 rfl rfl dX8_evaluate_47 ?_
    obtain ⟨w21, h⟩ := h
    obtain ⟨t22, g23, h⟩ := h
    refine EV.getR 51 rfl fl_X8_73 rfl dX8_evaluate_48 w21 g23 ?_
    refine EV.aload_n 52 rfl 0 rfl rfl dX8_evaluate_51 ?_
    obtain ⟨t24, g25, h⟩ := h
    refine EV.getR 55 rfl fl_X8_66 rfl dX8_evaluate_52 w21 g25 ?_
    refine EV.aload_n 56 rfl 0 rfl rfl dX8_evaluate_55 ?_
    obtain ⟨t26, g27, h⟩ := h
    refine EV.getR 59 rfl fl_X8_28 rfl dX8_evaluate_56 w21 g27 ?_
    refine EV.aload_n 60 rfl 0 rfl rfl dX8_evaluate_59 ?_
    obtain ⟨t28, g29, h⟩ := h
    refine EV.getR 63 rfl fl_X8_50 rfl dX8_evaluate_60 w21 g29 ?_
    obtain ⟨w32, h⟩ := h
    refine EV.cV rfl rfl lk_X8_107 rfl (vs := [.ref t24, .ref t26, .ref t28]) (st := []) rfl rfl (Nat.le_of_ble_eq_true rfl) dX8_evaluate_63 w32 h (fun v σ30 h => ?_)
    obtain ⟨r31, rfl, h⟩ := h
    rcases r31 with _ | t33
    · have h := h.1 rfl
      show EV Γ MX8_evaluate d 66 [some (.ref v0), none] [.null] σ30 Q
      refine EV.astore_nQ 67 rfl 1 [some (.ref v0), some (.null)] (r := none) rfl (by decide) rfl dX8_evaluate_66 ?_
      refine EV.aload_nQ 68 rfl 1 (r := none) rfl rfl dX8_evaluate_67 ?_
      refine EV.ifnonnull 71 79 rfl (r := none) (by decide) dX8_evaluate_68 (fun _ hh => by cases hh) (fun _ => ?_)
      obtain ⟨z34, h⟩ := h
      exact EV.throw0 rfl th_X8_111 z34 dX8_evaluate_71 dX8_evaluate_74 dX8_evaluate_75 dX8_evaluate_78 h
    · have h := h.2 t33 rfl
      show EV Γ MX8_evaluate d 66 [some (.ref v0), none] [.ref t33] σ30 Q
      refine EV.astore_n 67 rfl 1 [some (.ref v0), some (.ref t33)] rfl (by decide) rfl dX8_evaluate_66 ?_
      refine EV.aload_n 68 rfl 1 rfl rfl dX8_evaluate_67 ?_
      refine EV.ifnonnull 71 79 rfl (r := some t33) (by decide) dX8_evaluate_68 (fun _ _ => ?_) (fun hh => by cases hh)
      refine EV.aload_n 80 rfl 0 rfl rfl dX8_evaluate_79 ?_
      refine EV.aload_n 81 rfl 1 rfl rfl dX8_evaluate_80 ?_
      refine EV.bipush 83 rfl dX8_evaluate_81 (v := 64) (by decide) ?_
      refine EV.cS rfl lk_X8_114 rfl (vs := [.ref t33, .int 64]) (st := [.ref v0]) rfl rfl (Nat.le_of_ble_eq_true rfl) dX8_evaluate_83 h (fun v σ35 h => ?_)
      obtain ⟨r36, rfl, h⟩ := h
      show EV Γ MX8_evaluate d 86 [some (.ref v0), some (.ref t33)] [.ref r36, .ref v0] σ35 Q
      obtain ⟨w39, h⟩ := h
      refine EV.cV rfl rfl lk_X8_120 rfl (vs := [.ref r36]) (st := []) rfl rfl (Nat.le_of_ble_eq_true rfl) dX8_evaluate_86 w39 h (fun v σ37 h => ?_)
      obtain ⟨r38, rfl, h⟩ := h
      show EV Γ MX8_evaluate d 89 [some (.ref v0), some (.ref t33)] [.int r38] σ37 Q
      exact EV.iret rfl dX8_evaluate_89 h
  · have h := h.2 c18
    obtain ⟨z40, h⟩ := h
    exact EV.throw0 rfl th_X8_97 z40 dX8_evaluate_35 dX8_evaluate_38 dX8_evaluate_39 dX8_evaluate_42 h
theorem eX8_evaluate {Γ : Gm} {d : Nat} {σ : AH} {Q : Oc → AH → Prop} {v0 : Nat} (h : hs σ v0 = some (6, 17) ∧ ∃ t2 : Nat, gr σ v0 12 = some t2 ∧ ∃ t4 : Nat, gr σ v0 0 = some t4 ∧ ∃ t6 : Nat, gr σ v0 5 = some t6 ∧ hs σ t2 = some (5, 10) ∧ CI Γ d MX6_read [.ref t2, .ref t4, .int (gi σ v0 1), .ref t6] σ (fun r9 σ8 => hs σ8 v0 = some (6, 17) ∧ ∀ σ12 : AH, σ12 = setI σ8 v0 2 r9 → ∀ σ15 : AH, σ15 = setI σ12 v0 1 0 → (((gi σ15 v0 2) < 0 → CV Γ d MX8_checkRoom [.ref v0] σ15 (fun σ19 => hs σ19 v0 = some (6, 17) ∧ ∃ t22 : Nat, gr σ19 v0 13 = some t22 ∧ ∃ t24 : Nat, gr σ19 v0 12 = some t24 ∧ ∃ t26 : Nat, gr σ19 v0 5 = some t26 ∧ ∃ t28 : Nat, gr σ19 v0 10 = some t28 ∧ hs σ19 t22 = some (1, 2) ∧ CQ Γ d MX1_run [.ref t22, .ref t24, .ref t26, .ref t28] σ19 (fun r31 σ30 => ((r31 = none → 6 ≤ d ∧ Q (.inr "java/lang/ArithmeticException") (thr σ30)) ∧ (∀ t33 : Nat, r31 = some t33 → CR Γ d MJ7_copyOf_c38d5 [.ref t33, .int 64] σ30 (fun r36 σ35 => hs σ35 v0 = some (6, 17) ∧ CI Γ d MX8_addFamily [.ref v0, .ref r36] σ35 (fun r38 σ37 => Q (.inl (some (.int r38))) σ37) (fun E σ37 => Q (.inr E) σ37)) (fun _ _ => False)))) (fun E σ30 => Q (.inr E) σ30)) (fun E σ19 => Q (.inr E) σ19)) ∧ (¬ (gi σ15 v0 2) < 0 → 6 ≤ d ∧ Q (.inr "java/lang/IllegalArgumentException") (thr σ15)))) (fun E σ8 => Q (.inr E) σ8)) : RUN Γ d MX8_evaluate [.ref v0] σ Q :=
  EV.enter [some (.ref v0), none] rfl (by decide +kernel) (Nat.le_of_ble_eq_true rfl) rfl (gX8_evaluate_0 h)
theorem gX8_errorPosition_0 {Γ : Gm} {d : Nat} {σ : AH} {Q : Oc → AH → Prop} {v0 : Nat} (h : hs σ v0 = some (6, 17) ∧ Q (.inl (some (.int (gi σ v0 2)))) σ) : EV Γ MX8_errorPosition d 0 [some (.ref v0)] [] σ Q := by
  refine EV.aload_n 1 rfl 0 rfl rfl dX8_errorPosition_0 ?_
  obtain ⟨w1, h⟩ := h
  refine EV.getI 4 rfl fl_X8_17 rfl dX8_errorPosition_1 w1 ?_
  exact EV.iret rfl dX8_errorPosition_4 h
theorem eX8_errorPosition {Γ : Gm} {d : Nat} {σ : AH} {Q : Oc → AH → Prop} {v0 : Nat} (h : hs σ v0 = some (6, 17) ∧ Q (.inl (some (.int (gi σ v0 2)))) σ) : RUN Γ d MX8_errorPosition [.ref v0] σ Q :=
  EV.enter [some (.ref v0)] rfl (by decide +kernel) (Nat.le_of_ble_eq_true rfl) rfl (gX8_errorPosition_0 h)
theorem gX8_write_0 {Γ : Gm} {d : Nat} {σ : AH} {Q : Oc → AH → Prop} {v0 : Nat} {v1 : Int32} (h : hs σ v0 = some (6, 17) ∧ CR Γ d MX8_familyOf [.ref v0, .int v1] σ (fun r2 σ1 => hs σ1 r2 = some (4, 3) ∧ ∃ t5 : Nat, gr σ1 r2 0 = some t5 ∧ hs σ1 v0 = some (6, 17) ∧ ∃ t8 : Nat, gr σ1 v0 8 = some t8 ∧ CI Γ d MX7_list [.ref t5, .ref t8] σ1 (fun r11 σ10 => hs σ10 v0 = some (6, 17) ∧ CI Γ d MX8_writtenLength [.ref v0, .int r11] σ10 (fun r13 σ12 => ((r13 ≤ 1000 → hs σ12 v0 = some (6, 17) ∧ ∀ σ17 : AH, σ17 = setI σ12 v0 4 0 → ((r11 ≠ 0 → EV Γ MX8_write d 55 [some (.ref v0), none, none, some (.int r11), some (.int 0)] [] σ17 Q) ∧ (r11 = 0 → CV Γ d MX8_appendOutput [.ref v0, .int 48] σ17 (fun σ21 => EV Γ MX8_write d 55 [some (.ref v0), none, none, some (.int r11), some (.int 0)] [] σ21 Q) (fun E σ21 => Q (.inr E) σ21)))) ∧ (¬ r13 ≤ 1000 → 6 ≤ d ∧ Q (.inr "java/lang/ArithmeticException") (thr σ12)))) (fun E σ12 => Q (.inr E) σ12)) (fun _ _ => False)) (fun E σ1 => Q (.inr E) σ1)) : EV Γ MX8_write d 0 [some (.ref v0), some (.int v1), none, none, none] [] σ Q := by
  refine EV.aload_n 1 rfl 0 rfl rfl dX8_write_0 ?_
  refine EV.iload_n 2 rfl 1 rfl rfl dX8_write_1 ?_
  obtain ⟨w3, h⟩ := h
  refine EV.cV rfl rfl lk_X8_124 rfl (vs := [.int v1]) (st := []) rfl rfl (Nat.le_of_ble_eq_true rfl) dX8_write_2 w3 h (fun v σ1 h => ?_)
  obtain ⟨r2, rfl, h⟩ := h
  show EV Γ MX8_write d 5 [some (.ref v0), some (.int v1), none, none, none] [.ref r2] σ1 Q
  refine EV.astore_n 6 rfl 2 [some (.ref v0), some (.int v1), some (.ref r2), none, none] rfl (by decide) rfl dX8_write_5 ?_
  refine EV.aload_n 7 rfl 2 rfl rfl dX8_write_6 ?_
  obtain ⟨w4, h⟩ := h
  obtain ⟨t5, g6, h⟩ := h
  refine EV.getR 10 rfl fl_X8_128 rfl dX8_write_7 w4 g6 ?_
  refine EV.aload_n 11 rfl 0 rfl rfl dX8_write_10 ?_
  obtain ⟨w7, h⟩ := h
  obtain ⟨t8, g9, h⟩ := h
  refine EV.getR 14 rfl fl_X8_38 rfl dX8_write_11 w7 g9 ?_
  refine EV.cS rfl lk_X8_132 rfl (vs := [.ref t5, .ref t8]) (st := []) rfl rfl (Nat.le_of_ble_eq_true rfl) dX8_write_14 h (fun v σ10 h => ?_)
  obtain ⟨r11, rfl, h⟩ := h
  show EV Γ MX8_write d 17 [some (.ref v0), some (.int v1), some (.ref r2), none, none] [.int r11] σ10 Q
  refine EV.istore_n 18 rfl 3 [some (.ref v0), some (.int v1), some (.ref r2), some (.int r11), none] rfl (by decide) rfl dX8_write_17 ?_
  refine EV.aload_n 19 rfl 0 rfl rfl dX8_write_18 ?_
  refine EV.iload_n 20 rfl 3 rfl rfl dX8_write_19 ?_
  obtain ⟨w14, h⟩ := h
  refine EV.cV rfl rfl lk_X8_138 rfl (vs := [.int r11]) (st := []) rfl rfl (Nat.le_of_ble_eq_true rfl) dX8_write_20 w14 h (fun v σ12 h => ?_)
  obtain ⟨r13, rfl, h⟩ := h
  show EV Γ MX8_write d 23 [some (.ref v0), some (.int v1), some (.ref r2), some (.int r11), none] [.int r13] σ12 Q
  refine EV.sipush 26 rfl dX8_write_23 (v := 1000) (by decide) ?_
  refine EV.icmp_le 29 37 rfl (by decide) dX8_write_26 (fun c15 => ?_) (fun c15 => ?_)
  · have h := h.1 c15
    refine EV.aload_n 38 rfl 0 rfl rfl dX8_write_37 ?_
    refine EV.iconst 39 rfl dX8_write_38 (v := 0) (by decide) ?_
    obtain ⟨w16, h⟩ := h
    refine EV.putI 42 rfl fw_X8_23 rfl (by decide) dX8_write_39 w16 (EV.nm (fun σ17 e18 => ?_))
    have h := h σ17 e18
    have w19 := tr_hs (hs_setI_of e18) w16
    refine EV.iload_n 43 rfl 3 rfl rfl dX8_write_42 ?_
    refine EV.if_ne 46 52 rfl (by decide) dX8_write_43 (fun c20 => ?_) (fun c20 => ?_)
    · have h := h.1 c20
      refine EV.iconst 53 rfl dX8_write_52 (v := 0) (by decide) ?_
      refine EV.istore 55 rfl [some (.ref v0), some (.int v1), some (.ref r2), some (.int r11), some (.int 0)] (by decide) rfl dX8_write_53 ?_
      refine EV.mask [true, false, false, true, true] (L' := [some (.ref v0), none, none, some (.int r11), some (.int 0)]) rfl ?_
      exact h
    · have h := h.2 c20
      refine EV.aload_n 47 rfl 0 rfl rfl dX8_write_46 ?_
      refine EV.bipush 49 rfl dX8_write_47 (v := 48) (by decide) ?_
      refine EV.cV rfl rfl lk_X8_142 rfl (vs := [.int 48]) (st := []) rfl rfl (Nat.le_of_ble_eq_true rfl) dX8_write_49 w19 h (fun v σ21 h => ?_)
      obtain ⟨rfl, h⟩ := h
      show EV Γ MX8_write d 52 [some (.ref v0), some (.int v1), some (.ref r2), some (.int r11), none] [] σ21 Q
      refine EV.iconst 53 rfl dX8_write_52 (v := 0) (by decide) ?_
      refine EV.istore 55 rfl [some (.ref v0), some (.int v1), some (.ref r2), some (.int r11), some (.int 0)] (by decide) rfl dX8_write_53 ?_
      refine EV.mask [true, false, false, true, true] (L' := [some (.ref v0), none, none, some (.int r11), some (.int 0)]) rfl ?_
      exact h
  · have h := h.2 c15
    obtain ⟨z23, h⟩ := h
    exact EV.throw0 rfl th_X8_111 z23 dX8_write_29 dX8_write_32 dX8_write_33 dX8_write_36 h
theorem eX8_write {Γ : Gm} {d : Nat} {σ : AH} {Q : Oc → AH → Prop} {v0 : Nat} {v1 : Int32} (h : hs σ v0 = some (6, 17) ∧ CR Γ d MX8_familyOf [.ref v0, .int v1] σ (fun r2 σ1 => hs σ1 r2 = some (4, 3) ∧ ∃ t5 : Nat, gr σ1 r2 0 = some t5 ∧ hs σ1 v0 = some (6, 17) ∧ ∃ t8 : Nat, gr σ1 v0 8 = some t8 ∧ CI Γ d MX7_list [.ref t5, .ref t8] σ1 (fun r11 σ10 => hs σ10 v0 = some (6, 17) ∧ CI Γ d MX8_writtenLength [.ref v0, .int r11] σ10 (fun r13 σ12 => ((r13 ≤ 1000 → hs σ12 v0 = some (6, 17) ∧ ∀ σ17 : AH, σ17 = setI σ12 v0 4 0 → ((r11 ≠ 0 → EV Γ MX8_write d 55 [some (.ref v0), none, none, some (.int r11), some (.int 0)] [] σ17 Q) ∧ (r11 = 0 → CV Γ d MX8_appendOutput [.ref v0, .int 48] σ17 (fun σ21 => EV Γ MX8_write d 55 [some (.ref v0), none, none, some (.int r11), some (.int 0)] [] σ21 Q) (fun E σ21 => Q (.inr E) σ21)))) ∧ (¬ r13 ≤ 1000 → 6 ≤ d ∧ Q (.inr "java/lang/ArithmeticException") (thr σ12)))) (fun E σ12 => Q (.inr E) σ12)) (fun _ _ => False)) (fun E σ1 => Q (.inr E) σ1)) : RUN Γ d MX8_write [.ref v0, .int v1] σ Q :=
  EV.enter [some (.ref v0), some (.int v1), none, none, none] rfl (by decide +kernel) (Nat.le_of_ble_eq_true rfl) rfl (gX8_write_0 h)
theorem gX8_write_55 {Γ : Gm} {d : Nat} {σ : AH} {Q : Oc → AH → Prop} {v0 : Nat} {v3 : Int32} {v4 : Int32} (h : ((v3 ≤ v4 → hs σ v0 = some (6, 17) ∧ Q (.inl (some (.int (gi σ v0 4)))) σ) ∧ (¬ v3 ≤ v4 → ((4096 ≤ v4 → hs σ v0 = some (6, 17) ∧ Q (.inl (some (.int (gi σ v0 4)))) σ) ∧ (¬ 4096 ≤ v4 → ((v4 ≤ 0 → EV Γ MX8_write d 80 [some (.ref v0), none, none, some (.int v3), some (.int v4)] [] σ Q) ∧ (¬ v4 ≤ 0 → hs σ v0 = some (6, 17) ∧ CV Γ d MX8_appendOutput [.ref v0, .int 43] σ (fun σ6 => EV Γ MX8_write d 80 [some (.ref v0), none, none, some (.int v3), some (.int v4)] [] σ6 Q) (fun E σ6 => Q (.inr E) σ6)))))))) : EV Γ MX8_write d 55 [some (.ref v0), none, none, some (.int v3), some (.int v4)] [] σ Q := by
  refine EV.iload 57 rfl rfl dX8_write_55 ?_
  refine EV.iload_n 58 rfl 3 rfl rfl dX8_write_57 ?_
  refine EV.icmp_ge 61 97 rfl (by decide) dX8_write_58 (fun c1 => ?_) (fun c1 => ?_)
  · have h := h.1 c1
    refine EV.aload_n 98 rfl 0 rfl rfl dX8_write_97 ?_
    obtain ⟨w2, h⟩ := h
    refine EV.getI 101 rfl fl_X8_23 rfl dX8_write_98 w2 ?_
    exact EV.iret rfl dX8_write_101 h
  · have h := h.2 c1
    refine EV.iload 63 rfl rfl dX8_write_61 ?_
    refine EV.sipush 66 rfl dX8_write_63 (v := 4096) (by decide) ?_
    refine EV.icmp_ge 69 97 rfl (by decide) dX8_write_66 (fun c3 => ?_) (fun c3 => ?_)
    · have h := h.1 c3
      refine EV.aload_n 98 rfl 0 rfl rfl dX8_write_97 ?_
      obtain ⟨w4, h⟩ := h
      refine EV.getI 101 rfl fl_X8_23 rfl dX8_write_98 w4 ?_
      exact EV.iret rfl dX8_write_101 h
    · have h := h.2 c3
      refine EV.iload 71 rfl rfl dX8_write_69 ?_
      refine EV.if_le 74 80 rfl (by decide) dX8_write_71 (fun c5 => ?_) (fun c5 => ?_)
      · have h := h.1 c5
        exact h
      · have h := h.2 c5
        refine EV.aload_n 75 rfl 0 rfl rfl dX8_write_74 ?_
        refine EV.bipush 77 rfl dX8_write_75 (v := 43) (by decide) ?_
        obtain ⟨w8, h⟩ := h
        refine EV.cV rfl rfl lk_X8_142 rfl (vs := [.int 43]) (st := []) rfl rfl (Nat.le_of_ble_eq_true rfl) dX8_write_77 w8 h (fun v σ6 h => ?_)
        obtain ⟨rfl, h⟩ := h
        show EV Γ MX8_write d 80 [some (.ref v0), none, none, some (.int v3), some (.int v4)] [] σ6 Q
        exact h
theorem gX8_write_80 {Γ : Gm} {d : Nat} {σ : AH} {Q : Oc → AH → Prop} {v0 : Nat} {v3 : Int32} {v4 : Int32} (h : hs σ v0 = some (6, 17) ∧ ∃ t2 : Nat, gr σ v0 8 = some t2 ∧ ∃ n5 : Nat, hs σ t2 = some (22, n5) ∧ ∃ j6 : Nat, IX v4 n5 j6 ∧ CV Γ d MX8_writeSet [.ref v0, .int (gi σ t2 j6)] σ (fun σ8 => EV Γ MX8_write d 55 [some (.ref v0), none, none, some (.int v3), some (.int (v4 + 1))] [] σ8 Q) (fun E σ8 => Q (.inr E) σ8)) : EV Γ MX8_write d 80 [some (.ref v0), none, none, some (.int v3), some (.int v4)] [] σ Q := by
  refine EV.aload_n 81 rfl 0 rfl rfl dX8_write_80 ?_
  refine EV.aload_n 82 rfl 0 rfl rfl dX8_write_81 ?_
  obtain ⟨w1, h⟩ := h
  obtain ⟨t2, g3, h⟩ := h
  refine EV.getR 85 rfl fl_X8_38 rfl dX8_write_82 w1 g3 ?_
  refine EV.iload 87 rfl rfl dX8_write_85 ?_
  obtain ⟨n5, w4, h⟩ := h
  obtain ⟨j6, x7, h⟩ := h
  refine EV.iald 88 rfl dX8_write_87 w4 x7 ?_
  refine EV.cV rfl rfl lk_X8_145 rfl (vs := [.int (gi σ t2 j6)]) (st := []) rfl rfl (Nat.le_of_ble_eq_true rfl) dX8_write_88 w1 h (fun v σ8 h => ?_)
  obtain ⟨rfl, h⟩ := h
  show EV Γ MX8_write d 91 [some (.ref v0), none, none, some (.int v3), some (.int v4)] [] σ8 Q
  refine EV.iinc 94 rfl [some (.ref v0), none, none, some (.int v3), some (.int (v4 + 1))] (v := 1) (by decide) (by decide) rfl rfl dX8_write_91 ?_
  refine EV.goto 55 (by decide) dX8_write_94 ?_
  exact h
theorem gX8_writtenLength_0 {Γ : Gm} {d : Nat} {σ : AH} {Q : Oc → AH → Prop} {v0 : Nat} {v1 : Int32} (h : ((v1 ≠ 0 → EV Γ MX8_writtenLength d 12 [some (.ref v0), some (.int v1), some (.int (v1 - 1)), some (.int 0)] [] σ Q) ∧ (v1 = 0 → Q (.inl (some (.int 1))) σ))) : EV Γ MX8_writtenLength d 0 [some (.ref v0), some (.int v1), none, none] [] σ Q := by
  refine EV.iload_n 1 rfl 1 rfl rfl dX8_writtenLength_0 ?_
  refine EV.if_ne 4 6 rfl (by decide) dX8_writtenLength_1 (fun c1 => ?_) (fun c1 => ?_)
  · have h := h.1 c1
    refine EV.iload_n 7 rfl 1 rfl rfl dX8_writtenLength_6 ?_
    refine EV.iconst 8 rfl dX8_writtenLength_7 (v := 1) (by decide) ?_
    refine EV.isub 9 rfl dX8_writtenLength_8 ?_
    refine EV.istore_n 10 rfl 2 [some (.ref v0), some (.int v1), some (.int (v1 - 1)), none] rfl (by decide) rfl dX8_writtenLength_9 ?_
    refine EV.iconst 11 rfl dX8_writtenLength_10 (v := 0) (by decide) ?_
    refine EV.istore_n 12 rfl 3 [some (.ref v0), some (.int v1), some (.int (v1 - 1)), some (.int 0)] rfl (by decide) rfl dX8_writtenLength_11 ?_
    exact h
  · have h := h.2 c1
    refine EV.iconst 5 rfl dX8_writtenLength_4 (v := 1) (by decide) ?_
    exact EV.iret rfl dX8_writtenLength_5 h
theorem eX8_writtenLength {Γ : Gm} {d : Nat} {σ : AH} {Q : Oc → AH → Prop} {v0 : Nat} {v1 : Int32} (h : ((v1 ≠ 0 → EV Γ MX8_writtenLength d 12 [some (.ref v0), some (.int v1), some (.int (v1 - 1)), some (.int 0)] [] σ Q) ∧ (v1 = 0 → Q (.inl (some (.int 1))) σ))) : RUN Γ d MX8_writtenLength [.ref v0, .int v1] σ Q :=
  EV.enter [some (.ref v0), some (.int v1), none, none] rfl (by decide +kernel) (Nat.le_of_ble_eq_true rfl) rfl (gX8_writtenLength_0 h)
theorem gX8_writtenLength_12 {Γ : Gm} {d : Nat} {σ : AH} {Q : Oc → AH → Prop} {v0 : Nat} {v1 : Int32} {v2 : Int32} {v3 : Int32} (h : ((v1 ≤ v3 → Q (.inl (some (.int v2))) σ) ∧ (¬ v1 ≤ v3 → ((4096 ≤ v3 → Q (.inl (some (.int v2))) σ) ∧ (¬ 4096 ≤ v3 → hs σ v0 = some (6, 17) ∧ ∃ t4 : Nat, gr σ v0 8 = some t4 ∧ ∃ n7 : Nat, hs σ t4 = some (22, n7) ∧ ∃ j8 : Nat, IX v3 n7 j8 ∧ CI Γ d MJ6_bitCount_0f7a4 [.int (gi σ t4 j8)] σ (fun r11 σ10 => 1 ≤ d ∧ EV Γ MX8_writtenLength d 12 [some (.ref v0), some (.int v1), some (.int (v2 + (if 1 < r11 then r11 else 1))), some (.int (v3 + 1))] [] σ10 Q) (fun _ _ => False)))))) : EV Γ MX8_writtenLength d 12 [some (.ref v0), some (.int v1), some (.int v2), some (.int v3)] [] σ Q := by
  refine EV.iload_n 13 rfl 3 rfl rfl dX8_writtenLength_12 ?_
  refine EV.iload_n 14 rfl 1 rfl rfl dX8_writtenLength_13 ?_
  refine EV.icmp_ge 17 46 rfl (by decide) dX8_writtenLength_14 (fun c1 => ?_) (fun c1 => ?_)
  · have h := h.1 c1
    refine EV.iload_n 47 rfl 2 rfl rfl dX8_writtenLength_46 ?_
    exact EV.iret rfl dX8_writtenLength_47 h
  · have h := h.2 c1
    refine EV.iload_n 18 rfl 3 rfl rfl dX8_writtenLength_17 ?_
    refine EV.sipush 21 rfl dX8_writtenLength_18 (v := 4096) (by decide) ?_
    refine EV.icmp_ge 24 46 rfl (by decide) dX8_writtenLength_21 (fun c2 => ?_) (fun c2 => ?_)
    · have h := h.1 c2
      refine EV.iload_n 47 rfl 2 rfl rfl dX8_writtenLength_46 ?_
      exact EV.iret rfl dX8_writtenLength_47 h
    · have h := h.2 c2
      refine EV.iload_n 25 rfl 2 rfl rfl dX8_writtenLength_24 ?_
      refine EV.iconst 26 rfl dX8_writtenLength_25 (v := 1) (by decide) ?_
      refine EV.aload_n 27 rfl 0 rfl rfl dX8_writtenLength_26 ?_
      obtain ⟨w3, h⟩ := h
      obtain ⟨t4, g5, h⟩ := h
      refine EV.getR 30 rfl fl_X8_38 rfl dX8_writtenLength_27 w3 g5 ?_
      refine EV.iload_n 31 rfl 3 rfl rfl dX8_writtenLength_30 ?_
      obtain ⟨n7, w6, h⟩ := h
      obtain ⟨j8, x9, h⟩ := h
      refine EV.iald 32 rfl dX8_writtenLength_31 w6 x9 ?_
      refine EV.cS rfl lk_X8_148 rfl (vs := [.int (gi σ t4 j8)]) (st := [.int 1, .int v2]) rfl rfl (Nat.le_of_ble_eq_true rfl) dX8_writtenLength_32 h (fun v σ10 h => ?_)
      obtain ⟨r11, rfl, h⟩ := h
      show EV Γ MX8_writtenLength d 35 [some (.ref v0), some (.int v1), some (.int v2), some (.int v3)] [.int r11, .int 1, .int v2] σ10 Q
      obtain ⟨z12, h⟩ := h
      refine EV.mmax 38 rfl mm_X8_153 z12 (Nat.le_of_ble_eq_true rfl) dX8_writtenLength_35 ?_
      refine EV.iadd 39 rfl dX8_writtenLength_38 ?_
      refine EV.istore_n 40 rfl 2 [some (.ref v0), some (.int v1), some (.int (v2 + (if 1 < r11 then r11 else 1))), some (.int v3)] rfl (by decide) rfl dX8_writtenLength_39 ?_
      refine EV.iinc 43 rfl [some (.ref v0), some (.int v1), some (.int (v2 + (if 1 < r11 then r11 else 1))), some (.int (v3 + 1))] (v := 1) (by decide) (by decide) rfl rfl dX8_writtenLength_40 ?_
      refine EV.goto 12 (by decide) dX8_writtenLength_43 ?_
      exact h
theorem gX8_writeSet_0 {Γ : Gm} {d : Nat} {σ : AH} {Q : Oc → AH → Prop} {v0 : Nat} {v1 : Int32} (h : ((v1 ≠ 0 → EV Γ MX8_writeSet d 12 [some (.ref v0), some (.int v1), some (.int 0)] [] σ Q) ∧ (v1 = 0 → hs σ v0 = some (6, 17) ∧ CV Γ d MX8_appendOutput [.ref v0, .int 49] σ (fun σ2 => EV Γ MX8_writeSet d 12 [some (.ref v0), some (.int v1), some (.int 0)] [] σ2 Q) (fun E σ2 => Q (.inr E) σ2)))) : EV Γ MX8_writeSet d 0 [some (.ref v0), some (.int v1), none] [] σ Q := by
  refine EV.iload_n 1 rfl 1 rfl rfl dX8_writeSet_0 ?_
  refine EV.if_ne 4 10 rfl (by decide) dX8_writeSet_1 (fun c1 => ?_) (fun c1 => ?_)
  · have h := h.1 c1
    refine EV.iconst 11 rfl dX8_writeSet_10 (v := 0) (by decide) ?_
    refine EV.istore_n 12 rfl 2 [some (.ref v0), some (.int v1), some (.int 0)] rfl (by decide) rfl dX8_writeSet_11 ?_
    exact h
  · have h := h.2 c1
    refine EV.aload_n 5 rfl 0 rfl rfl dX8_writeSet_4 ?_
    refine EV.bipush 7 rfl dX8_writeSet_5 (v := 49) (by decide) ?_
    obtain ⟨w4, h⟩ := h
    refine EV.cV rfl rfl lk_X8_142 rfl (vs := [.int 49]) (st := []) rfl rfl (Nat.le_of_ble_eq_true rfl) dX8_writeSet_7 w4 h (fun v σ2 h => ?_)
    obtain ⟨rfl, h⟩ := h
    show EV Γ MX8_writeSet d 10 [some (.ref v0), some (.int v1), none] [] σ2 Q
    refine EV.iconst 11 rfl dX8_writeSet_10 (v := 0) (by decide) ?_
    refine EV.istore_n 12 rfl 2 [some (.ref v0), some (.int v1), some (.int 0)] rfl (by decide) rfl dX8_writeSet_11 ?_
    exact h
theorem eX8_writeSet {Γ : Gm} {d : Nat} {σ : AH} {Q : Oc → AH → Prop} {v0 : Nat} {v1 : Int32} (h : ((v1 ≠ 0 → EV Γ MX8_writeSet d 12 [some (.ref v0), some (.int v1), some (.int 0)] [] σ Q) ∧ (v1 = 0 → hs σ v0 = some (6, 17) ∧ CV Γ d MX8_appendOutput [.ref v0, .int 49] σ (fun σ2 => EV Γ MX8_writeSet d 12 [some (.ref v0), some (.int v1), some (.int 0)] [] σ2 Q) (fun E σ2 => Q (.inr E) σ2)))) : RUN Γ d MX8_writeSet [.ref v0, .int v1] σ Q :=
  EV.enter [some (.ref v0), some (.int v1), none] rfl (by decide +kernel) (Nat.le_of_ble_eq_true rfl) rfl (gX8_writeSet_0 h)
theorem gX8_writeSet_12 {Γ : Gm} {d : Nat} {σ : AH} {Q : Oc → AH → Prop} {v0 : Nat} {v1 : Int32} {v2 : Int32} (h : ((12 ≤ v2 → Q (.inl none) σ) ∧ (¬ 12 ≤ v2 → ((((v1 >>> (v2 &&& 31)) &&& 1) = 0 → EV Γ MX8_writeSet d 12 [some (.ref v0), some (.int v1), some (.int (v2 + 1))] [] σ Q) ∧ (¬ ((v1 >>> (v2 &&& 31)) &&& 1) = 0 → hs σ v0 = some (6, 17) ∧ CV Γ d MX8_appendOutput [.ref v0, .int ((97 : Int32) + v2)] σ (fun σ3 => EV Γ MX8_writeSet d 12 [some (.ref v0), some (.int v1), some (.int (v2 + 1))] [] σ3 Q) (fun E σ3 => Q (.inr E) σ3)))))) : EV Γ MX8_writeSet d 12 [some (.ref v0), some (.int v1), some (.int v2)] [] σ Q := by
  refine EV.iload_n 13 rfl 2 rfl rfl dX8_writeSet_12 ?_
  refine EV.bipush 15 rfl dX8_writeSet_13 (v := 12) (by decide) ?_
  refine EV.icmp_ge 18 40 rfl (by decide) dX8_writeSet_15 (fun c1 => ?_) (fun c1 => ?_)
  · have h := h.1 c1
    exact EV.vret rfl dX8_writeSet_40 h
  · have h := h.2 c1
    refine EV.iload_n 19 rfl 1 rfl rfl dX8_writeSet_18 ?_
    refine EV.iload_n 20 rfl 2 rfl rfl dX8_writeSet_19 ?_
    refine EV.ishr 21 rfl dX8_writeSet_20 ?_
    refine EV.iconst 22 rfl dX8_writeSet_21 (v := 1) (by decide) ?_
    refine EV.iand 23 rfl dX8_writeSet_22 ?_
    refine EV.if_eq 26 34 rfl (by decide) dX8_writeSet_23 (fun c2 => ?_) (fun c2 => ?_)
    · have h := h.1 c2
      refine EV.iinc 37 rfl [some (.ref v0), some (.int v1), some (.int (v2 + 1))] (v := 1) (by decide) (by decide) rfl rfl dX8_writeSet_34 ?_
      refine EV.goto 12 (by decide) dX8_writeSet_37 ?_
      exact h
    · have h := h.2 c2
      refine EV.aload_n 27 rfl 0 rfl rfl dX8_writeSet_26 ?_
      refine EV.bipush 29 rfl dX8_writeSet_27 (v := 97) (by decide) ?_
      refine EV.iload_n 30 rfl 2 rfl rfl dX8_writeSet_29 ?_
      refine EV.iadd 31 rfl dX8_writeSet_30 ?_
      obtain ⟨w5, h⟩ := h
      refine EV.cV rfl rfl lk_X8_142 rfl (vs := [.int ((97 : Int32) + v2)]) (st := []) rfl rfl (Nat.le_of_ble_eq_true rfl) dX8_writeSet_31 w5 h (fun v σ3 h => ?_)
      obtain ⟨rfl, h⟩ := h
      show EV Γ MX8_writeSet d 34 [some (.ref v0), some (.int v1), some (.int v2)] [] σ3 Q
      refine EV.iinc 37 rfl [some (.ref v0), some (.int v1), some (.int (v2 + 1))] (v := 1) (by decide) (by decide) rfl rfl dX8_writeSet_34 ?_
      refine EV.goto 12 (by decide) dX8_writeSet_37 ?_
      exact h
theorem gX8_appendOutput_0 {Γ : Gm} {d : Nat} {σ : AH} {Q : Oc → AH → Prop} {v0 : Nat} {v1 : Int32} (h : hs σ v0 = some (6, 17) ∧ ((1000 ≤ (gi σ v0 4) → Q (.inl none) σ) ∧ (¬ 1000 ≤ (gi σ v0 4) → ∃ t3 : Nat, gr σ v0 3 = some t3 ∧ ∃ n6 : Nat, hs σ t3 = some (20, n6) ∧ ∃ j7 : Nat, IX (gi σ v0 4) n6 j7 ∧ ∀ σ9 : AH, σ9 = setI σ t3 j7 (vp_nar .byte (Int8.toInt32 (Int32.toInt8 v1))) → ∀ σ14 : AH, σ14 = setI σ9 v0 4 ((gi σ9 v0 4) + 1) → Q (.inl none) σ14))) : EV Γ MX8_appendOutput d 0 [some (.ref v0), some (.int v1)] [] σ Q := by
  refine EV.aload_n 1 rfl 0 rfl rfl dX8_appendOutput_0 ?_
  obtain ⟨w1, h⟩ := h
  refine EV.getI 4 rfl fl_X8_23 rfl dX8_appendOutput_1 w1 ?_
  refine EV.sipush 7 rfl dX8_appendOutput_4 (v := 1000) (by decide) ?_
  refine EV.icmp_ge 10 31 rfl (by decide) dX8_appendOutput_7 (fun c2 => ?_) (fun c2 => ?_)
  · have h := h.1 c2
    exact EV.vret rfl dX8_appendOutput_31 h
  · have h := h.2 c2
    refine EV.aload_n 11 rfl 0 rfl rfl dX8_appendOutput_10 ?_
    obtain ⟨t3, g4, h⟩ := h
    refine EV.getR 14 rfl fl_X8_20 rfl dX8_appendOutput_11 w1 g4 ?_
    refine EV.aload_n 15 rfl 0 rfl rfl dX8_appendOutput_14 ?_
    refine EV.getI 18 rfl fl_X8_23 rfl dX8_appendOutput_15 w1 ?_
    refine EV.iload_n 19 rfl 1 rfl rfl dX8_appendOutput_18 ?_
    refine EV.i2b 20 rfl dX8_appendOutput_19 ?_
    obtain ⟨n6, w5, h⟩ := h
    obtain ⟨j7, x8, h⟩ := h
    refine EV.bast 21 rfl dX8_appendOutput_20 w5 x8 (EV.nm (fun σ9 e10 => ?_))
    have h := h σ9 e10
    have w11 := tr_hs (hs_setI_of e10) w1
    have w12 := tr_hs (hs_setI_of e10) w5
    have g13 := tr_gr (gr_setI_of e10) g4
    refine EV.aload_n 22 rfl 0 rfl rfl dX8_appendOutput_21 ?_
    refine EV.dup 23 rfl dX8_appendOutput_22 rfl ?_
    refine EV.getI 26 rfl fl_X8_23 rfl dX8_appendOutput_23 w11 ?_
    refine EV.iconst 27 rfl dX8_appendOutput_26 (v := 1) (by decide) ?_
    refine EV.iadd 28 rfl dX8_appendOutput_27 ?_
    refine EV.putI 31 rfl fw_X8_23 rfl (by decide) dX8_appendOutput_28 w11 (EV.nm (fun σ14 e15 => ?_))
    have h := h σ14 e15
    have w16 := tr_hs (hs_setI_of e15) w11
    have w17 := tr_hs (hs_setI_of e15) w12
    have g18 := tr_gr (gr_setI_of e15) g13
    exact EV.vret rfl dX8_appendOutput_31 h
theorem eX8_appendOutput {Γ : Gm} {d : Nat} {σ : AH} {Q : Oc → AH → Prop} {v0 : Nat} {v1 : Int32} (h : hs σ v0 = some (6, 17) ∧ ((1000 ≤ (gi σ v0 4) → Q (.inl none) σ) ∧ (¬ 1000 ≤ (gi σ v0 4) → ∃ t3 : Nat, gr σ v0 3 = some t3 ∧ ∃ n6 : Nat, hs σ t3 = some (20, n6) ∧ ∃ j7 : Nat, IX (gi σ v0 4) n6 j7 ∧ ∀ σ9 : AH, σ9 = setI σ t3 j7 (vp_nar .byte (Int8.toInt32 (Int32.toInt8 v1))) → ∀ σ14 : AH, σ14 = setI σ9 v0 4 ((gi σ9 v0 4) + 1) → Q (.inl none) σ14))) : RUN Γ d MX8_appendOutput [.ref v0, .int v1] σ Q :=
  EV.enter [some (.ref v0), some (.int v1)] rfl (by decide +kernel) (Nat.le_of_ble_eq_true rfl) rfl (gX8_appendOutput_0 h)
theorem gX8_outputByte_0 {Γ : Gm} {d : Nat} {σ : AH} {Q : Oc → AH → Prop} {v0 : Nat} {v1 : Int32} (h : ((v1 < 0 → EV Γ MX8_outputByte d 19 [none, none] [] σ Q) ∧ (¬ v1 < 0 → hs σ v0 = some (6, 17) ∧ (((gi σ v0 4) ≤ v1 → EV Γ MX8_outputByte d 19 [none, none] [] σ Q) ∧ (¬ (gi σ v0 4) ≤ v1 → ((v1 < 1000 → ∃ t5 : Nat, gr σ v0 3 = some t5 ∧ ∃ n8 : Nat, hs σ t5 = some (20, n8) ∧ ∃ j9 : Nat, IX v1 n8 j9 ∧ Q (.inl (some (.int (gi σ t5 j9)))) σ) ∧ (¬ v1 < 1000 → EV Γ MX8_outputByte d 19 [none, none] [] σ Q))))))) : EV Γ MX8_outputByte d 0 [some (.ref v0), some (.int v1)] [] σ Q := by
  refine EV.iload_n 1 rfl 1 rfl rfl dX8_outputByte_0 ?_
  refine EV.if_lt 4 19 rfl (by decide) dX8_outputByte_1 (fun c1 => ?_) (fun c1 => ?_)
  · have h := h.1 c1
    refine EV.mask [false, false] (L' := [none, none]) rfl ?_
    exact h
  · have h := h.2 c1
    refine EV.iload_n 5 rfl 1 rfl rfl dX8_outputByte_4 ?_
    refine EV.aload_n 6 rfl 0 rfl rfl dX8_outputByte_5 ?_
    obtain ⟨w2, h⟩ := h
    refine EV.getI 9 rfl fl_X8_23 rfl dX8_outputByte_6 w2 ?_
    refine EV.icmp_ge 12 19 rfl (by decide) dX8_outputByte_9 (fun c3 => ?_) (fun c3 => ?_)
    · have h := h.1 c3
      refine EV.mask [false, false] (L' := [none, none]) rfl ?_
      exact h
    · have h := h.2 c3
      refine EV.iload_n 13 rfl 1 rfl rfl dX8_outputByte_12 ?_
      refine EV.sipush 16 rfl dX8_outputByte_13 (v := 1000) (by decide) ?_
      refine EV.icmp_lt 19 27 rfl (by decide) dX8_outputByte_16 (fun c4 => ?_) (fun c4 => ?_)
      · have h := h.1 c4
        refine EV.aload_n 28 rfl 0 rfl rfl dX8_outputByte_27 ?_
        obtain ⟨t5, g6, h⟩ := h
        refine EV.getR 31 rfl fl_X8_20 rfl dX8_outputByte_28 w2 g6 ?_
        refine EV.iload_n 32 rfl 1 rfl rfl dX8_outputByte_31 ?_
        obtain ⟨n8, w7, h⟩ := h
        obtain ⟨j9, x10, h⟩ := h
        refine EV.bald 33 rfl dX8_outputByte_32 w7 x10 ?_
        exact EV.iret rfl dX8_outputByte_33 h
      · have h := h.2 c4
        refine EV.mask [false, false] (L' := [none, none]) rfl ?_
        exact h
theorem eX8_outputByte {Γ : Gm} {d : Nat} {σ : AH} {Q : Oc → AH → Prop} {v0 : Nat} {v1 : Int32} (h : ((v1 < 0 → EV Γ MX8_outputByte d 19 [none, none] [] σ Q) ∧ (¬ v1 < 0 → hs σ v0 = some (6, 17) ∧ (((gi σ v0 4) ≤ v1 → EV Γ MX8_outputByte d 19 [none, none] [] σ Q) ∧ (¬ (gi σ v0 4) ≤ v1 → ((v1 < 1000 → ∃ t5 : Nat, gr σ v0 3 = some t5 ∧ ∃ n8 : Nat, hs σ t5 = some (20, n8) ∧ ∃ j9 : Nat, IX v1 n8 j9 ∧ Q (.inl (some (.int (gi σ t5 j9)))) σ) ∧ (¬ v1 < 1000 → EV Γ MX8_outputByte d 19 [none, none] [] σ Q))))))) : RUN Γ d MX8_outputByte [.ref v0, .int v1] σ Q :=
  EV.enter [some (.ref v0), some (.int v1)] rfl (by decide +kernel) (Nat.le_of_ble_eq_true rfl) rfl (gX8_outputByte_0 h)
theorem gX8_outputByte_19 {Γ : Gm} {d : Nat} {σ : AH} {Q : Oc → AH → Prop} (h : 6 ≤ d ∧ Q (.inr "java/lang/IndexOutOfBoundsException") (thr σ)) : EV Γ MX8_outputByte d 19 [none, none] [] σ Q := by
  obtain ⟨z1, h⟩ := h
  exact EV.throw0 rfl th_X8_159 z1 dX8_outputByte_19 dX8_outputByte_22 dX8_outputByte_23 dX8_outputByte_26 h
theorem gX8_single_0 {Γ : Gm} {d : Nat} {σ : AH} {Q : Oc → AH → Prop} {v0 : Nat} {v1 : Int32} (h : hs σ v0 = some (6, 17) ∧ CV Γ d MX8_checkMask [.ref v0, .int v1] σ (fun σ1 => hs σ1 v0 = some (6, 17) ∧ CV Γ d MX8_checkRoom [.ref v0] σ1 (fun σ4 => ∀ (q7 : Nat) (σ8 : AH), q7 = lo Γ + hc σ4 → σ8 = mk σ4 q7 23 64 → CV Γ d MX7_put [.ref q7, .int v1] σ8 (fun σ10 => hs σ10 v0 = some (6, 17) ∧ CI Γ d MX8_addFamily [.ref v0, .ref q7] σ10 (fun r13 σ12 => Q (.inl (some (.int r13))) σ12) (fun E σ12 => Q (.inr E) σ12)) (fun _ _ => False)) (fun E σ4 => Q (.inr E) σ4)) (fun E σ1 => Q (.inr E) σ1)) : EV Γ MX8_single d 0 [some (.ref v0), some (.int v1), none] [] σ Q := by
  refine EV.aload_n 1 rfl 0 rfl rfl dX8_single_0 ?_
  refine EV.iload_n 2 rfl 1 rfl rfl dX8_single_1 ?_
  obtain ⟨w3, h⟩ := h
  refine EV.cV rfl rfl lk_X8_162 rfl (vs := [.int v1]) (st := []) rfl rfl (Nat.le_of_ble_eq_true rfl) dX8_single_2 w3 h (fun v σ1 h => ?_)
  obtain ⟨rfl, h⟩ := h
  show EV Γ MX8_single d 5 [some (.ref v0), some (.int v1), none] [] σ1 Q
  refine EV.aload_n 6 rfl 0 rfl rfl dX8_single_5 ?_
  obtain ⟨w6, h⟩ := h
  refine EV.cV rfl rfl lk_X8_104 rfl (vs := []) (st := []) rfl rfl (Nat.le_of_ble_eq_true rfl) dX8_single_6 w6 h (fun v σ4 h => ?_)
  obtain ⟨rfl, h⟩ := h
  show EV Γ MX8_single d 9 [some (.ref v0), some (.int v1), none] [] σ4 Q
  refine EV.bipush 11 rfl dX8_single_9 (v := 64) (by decide) ?_
  refine EV.newJ 13 rfl (n := 64) ac_long dX8_single_11 (by decide) (Nat.le_of_ble_eq_true rfl) (EV.nq (fun q7 σ8 eq7 eσ8 => ?_))
  have h := h q7 σ8 eq7 eσ8
  have w9 : hs σ8 q7 = some (23, 64) := by rw [eσ8]; exact up_same _ _ _
  refine EV.astore_n 14 rfl 2 [some (.ref v0), some (.int v1), some (.ref q7)] rfl (by decide) rfl dX8_single_13 ?_
  refine EV.aload_n 15 rfl 2 rfl rfl dX8_single_14 ?_
  refine EV.iload_n 16 rfl 1 rfl rfl dX8_single_15 ?_
  refine EV.cS rfl lk_X8_165 rfl (vs := [.ref q7, .int v1]) (st := []) rfl rfl (Nat.le_of_ble_eq_true rfl) dX8_single_16 h (fun v σ10 h => ?_)
  obtain ⟨rfl, h⟩ := h
  show EV Γ MX8_single d 19 [some (.ref v0), some (.int v1), some (.ref q7)] [] σ10 Q
  refine EV.aload_n 20 rfl 0 rfl rfl dX8_single_19 ?_
  refine EV.aload_n 21 rfl 2 rfl rfl dX8_single_20 ?_
  obtain ⟨w14, h⟩ := h
  refine EV.cV rfl rfl lk_X8_120 rfl (vs := [.ref q7]) (st := []) rfl rfl (Nat.le_of_ble_eq_true rfl) dX8_single_21 w14 h (fun v σ12 h => ?_)
  obtain ⟨r13, rfl, h⟩ := h
  show EV Γ MX8_single d 24 [some (.ref v0), some (.int v1), some (.ref q7)] [.int r13] σ12 Q
  exact EV.iret rfl dX8_single_24 h
theorem eX8_single {Γ : Gm} {d : Nat} {σ : AH} {Q : Oc → AH → Prop} {v0 : Nat} {v1 : Int32} (h : hs σ v0 = some (6, 17) ∧ CV Γ d MX8_checkMask [.ref v0, .int v1] σ (fun σ1 => hs σ1 v0 = some (6, 17) ∧ CV Γ d MX8_checkRoom [.ref v0] σ1 (fun σ4 => ∀ (q7 : Nat) (σ8 : AH), q7 = lo Γ + hc σ4 → σ8 = mk σ4 q7 23 64 → CV Γ d MX7_put [.ref q7, .int v1] σ8 (fun σ10 => hs σ10 v0 = some (6, 17) ∧ CI Γ d MX8_addFamily [.ref v0, .ref q7] σ10 (fun r13 σ12 => Q (.inl (some (.int r13))) σ12) (fun E σ12 => Q (.inr E) σ12)) (fun _ _ => False)) (fun E σ4 => Q (.inr E) σ4)) (fun E σ1 => Q (.inr E) σ1)) : RUN Γ d MX8_single [.ref v0, .int v1] σ Q :=
  EV.enter [some (.ref v0), some (.int v1), none] rfl (by decide +kernel) (Nat.le_of_ble_eq_true rfl) rfl (gX8_single_0 h)
theorem gX8_subsetsOf_0 {Γ : Gm} {d : Nat} {σ : AH} {Q : Oc → AH → Prop} {v0 : Nat} {v1 : Int32} {v2 : Int32} (h : hs σ v0 = some (6, 17) ∧ CV Γ d MX8_checkMask [.ref v0, .int v1] σ (fun σ1 => ((v2 < (-1) → EV Γ MX8_subsetsOf d 16 [none, none, none, none, none] [] σ1 Q) ∧ (¬ v2 < (-1) → ((v2 ≤ 12 → hs σ1 v0 = some (6, 17) ∧ CV Γ d MX8_checkRoom [.ref v0] σ1 (fun σ6 => ∀ (q9 : Nat) (σ10 : AH), q9 = lo Γ + hc σ6 → σ10 = mk σ6 q9 23 64 → EV Γ MX8_subsetsOf d 36 [some (.ref v0), some (.int v1), some (.int v2), some (.ref q9), some (.int 0)] [] σ10 Q) (fun E σ6 => Q (.inr E) σ6)) ∧ (¬ v2 ≤ 12 → EV Γ MX8_subsetsOf d 16 [none, none, none, none, none] [] σ1 Q))))) (fun E σ1 => Q (.inr E) σ1)) : EV Γ MX8_subsetsOf d 0 [some (.ref v0), some (.int v1), some (.int v2), none, none] [] σ Q := by
  refine EV.aload_n 1 rfl 0 rfl rfl dX8_subsetsOf_0 ?_
  refine EV.iload_n 2 rfl 1 rfl rfl dX8_subsetsOf_1 ?_
  obtain ⟨w3, h⟩ := h
  refine EV.cV rfl rfl lk_X8_162 rfl (vs := [.int v1]) (st := []) rfl rfl (Nat.le_of_ble_eq_true rfl) dX8_subsetsOf_2 w3 h (fun v σ1 h => ?_)
  obtain ⟨rfl, h⟩ := h
  show EV Γ MX8_subsetsOf d 5 [some (.ref v0), some (.int v1), some (.int v2), none, none] [] σ1 Q
  refine EV.iload_n 6 rfl 2 rfl rfl dX8_subsetsOf_5 ?_
  refine EV.iconst 7 rfl dX8_subsetsOf_6 (v := (-1)) (by decide) ?_
  refine EV.icmp_lt 10 16 rfl (by decide) dX8_subsetsOf_7 (fun c4 => ?_) (fun c4 => ?_)
  · have h := h.1 c4
    refine EV.mask [false, false, false, false, false] (L' := [none, none, none, none, none]) rfl ?_
    exact h
  · have h := h.2 c4
    refine EV.iload_n 11 rfl 2 rfl rfl dX8_subsetsOf_10 ?_
    refine EV.bipush 13 rfl dX8_subsetsOf_11 (v := 12) (by decide) ?_
    refine EV.icmp_le 16 24 rfl (by decide) dX8_subsetsOf_13 (fun c5 => ?_) (fun c5 => ?_)
    · have h := h.1 c5
      refine EV.aload_n 25 rfl 0 rfl rfl dX8_subsetsOf_24 ?_
      obtain ⟨w8, h⟩ := h
      refine EV.cV rfl rfl lk_X8_104 rfl (vs := []) (st := []) rfl rfl (Nat.le_of_ble_eq_true rfl) dX8_subsetsOf_25 w8 h (fun v σ6 h => ?_)
      obtain ⟨rfl, h⟩ := h
      show EV Γ MX8_subsetsOf d 28 [some (.ref v0), some (.int v1), some (.int v2), none, none] [] σ6 Q
      refine EV.bipush 30 rfl dX8_subsetsOf_28 (v := 64) (by decide) ?_
      refine EV.newJ 32 rfl (n := 64) ac_long dX8_subsetsOf_30 (by decide) (Nat.le_of_ble_eq_true rfl) (EV.nq (fun q9 σ10 eq9 eσ10 => ?_))
      have h := h q9 σ10 eq9 eσ10
      have w11 : hs σ10 q9 = some (23, 64) := by rw [eσ10]; exact up_same _ _ _
      refine EV.astore_n 33 rfl 3 [some (.ref v0), some (.int v1), some (.int v2), some (.ref q9), none] rfl (by decide) rfl dX8_subsetsOf_32 ?_
      refine EV.iconst 34 rfl dX8_subsetsOf_33 (v := 0) (by decide) ?_
      refine EV.istore 36 rfl [some (.ref v0), some (.int v1), some (.int v2), some (.ref q9), some (.int 0)] (by decide) rfl dX8_subsetsOf_34 ?_
      exact h
    · have h := h.2 c5
      refine EV.mask [false, false, false, false, false] (L' := [none, none, none, none, none]) rfl ?_
      exact h
theorem eX8_subsetsOf {Γ : Gm} {d : Nat} {σ : AH} {Q : Oc → AH → Prop} {v0 : Nat} {v1 : Int32} {v2 : Int32} (h : hs σ v0 = some (6, 17) ∧ CV Γ d MX8_checkMask [.ref v0, .int v1] σ (fun σ1 => ((v2 < (-1) → EV Γ MX8_subsetsOf d 16 [none, none, none, none, none] [] σ1 Q) ∧ (¬ v2 < (-1) → ((v2 ≤ 12 → hs σ1 v0 = some (6, 17) ∧ CV Γ d MX8_checkRoom [.ref v0] σ1 (fun σ6 => ∀ (q9 : Nat) (σ10 : AH), q9 = lo Γ + hc σ6 → σ10 = mk σ6 q9 23 64 → EV Γ MX8_subsetsOf d 36 [some (.ref v0), some (.int v1), some (.int v2), some (.ref q9), some (.int 0)] [] σ10 Q) (fun E σ6 => Q (.inr E) σ6)) ∧ (¬ v2 ≤ 12 → EV Γ MX8_subsetsOf d 16 [none, none, none, none, none] [] σ1 Q))))) (fun E σ1 => Q (.inr E) σ1)) : RUN Γ d MX8_subsetsOf [.ref v0, .int v1, .int v2] σ Q :=
  EV.enter [some (.ref v0), some (.int v1), some (.int v2), none, none] rfl (by decide +kernel) (Nat.le_of_ble_eq_true rfl) rfl (gX8_subsetsOf_0 h)
theorem gX8_subsetsOf_16 {Γ : Gm} {d : Nat} {σ : AH} {Q : Oc → AH → Prop} (h : 6 ≤ d ∧ Q (.inr "java/lang/IllegalArgumentException") (thr σ)) : EV Γ MX8_subsetsOf d 16 [none, none, none, none, none] [] σ Q := by
  obtain ⟨z1, h⟩ := h
  exact EV.throw0 rfl th_X8_97 z1 dX8_subsetsOf_16 dX8_subsetsOf_19 dX8_subsetsOf_20 dX8_subsetsOf_23 h
theorem gX8_subsetsOf_36 {Γ : Gm} {d : Nat} {σ : AH} {Q : Oc → AH → Prop} {v0 : Nat} {v1 : Int32} {v2 : Int32} {v3 : Nat} {v4 : Int32} (h : ((v1 < v4 → EV Γ MX8_subsetsOf d 85 [some (.ref v0), none, none, some (.ref v3), none] [] σ Q) ∧ (¬ v1 < v4 → ((4096 ≤ v4 → EV Γ MX8_subsetsOf d 85 [some (.ref v0), none, none, some (.ref v3), none] [] σ Q) ∧ (¬ 4096 ≤ v4 → (((v4 &&& (v1 ^^^ (-1))) ≠ 0 → EV Γ MX8_subsetsOf d 36 [some (.ref v0), some (.int v1), some (.int v2), some (.ref v3), some (.int (v4 + 1))] [] σ Q) ∧ ((v4 &&& (v1 ^^^ (-1))) = 0 → ((v2 = (-1) → EV Γ MX8_subsetsOf d 73 [some (.ref v0), some (.int v1), some (.int v2), some (.ref v3), some (.int v4)] [] σ Q) ∧ (¬ v2 = (-1) → CI Γ d MJ6_bitCount_0f7a4 [.int v4] σ (fun r6 σ5 => ((r6 ≠ v2 → EV Γ MX8_subsetsOf d 36 [some (.ref v0), some (.int v1), some (.int v2), some (.ref v3), some (.int (v4 + 1))] [] σ5 Q) ∧ (r6 = v2 → EV Γ MX8_subsetsOf d 73 [some (.ref v0), some (.int v1), some (.int v2), some (.ref v3), some (.int v4)] [] σ5 Q))) (fun _ _ => False)))))))))) : EV Γ MX8_subsetsOf d 36 [some (.ref v0), some (.int v1), some (.int v2), some (.ref v3), some (.int v4)] [] σ Q := by
  refine EV.iload 38 rfl rfl dX8_subsetsOf_36 ?_
  refine EV.iload_n 39 rfl 1 rfl rfl dX8_subsetsOf_38 ?_
  refine EV.icmp_gt 42 85 rfl (by decide) dX8_subsetsOf_39 (fun c1 => ?_) (fun c1 => ?_)
  · have h := h.1 c1
    refine EV.mask [true, false, false, true, false] (L' := [some (.ref v0), none, none, some (.ref v3), none]) rfl ?_
    exact h
  · have h := h.2 c1
    refine EV.iload 44 rfl rfl dX8_subsetsOf_42 ?_
    refine EV.sipush 47 rfl dX8_subsetsOf_44 (v := 4096) (by decide) ?_
    refine EV.icmp_ge 50 85 rfl (by decide) dX8_subsetsOf_47 (fun c2 => ?_) (fun c2 => ?_)
    · have h := h.1 c2
      refine EV.mask [true, false, false, true, false] (L' := [some (.ref v0), none, none, some (.ref v3), none]) rfl ?_
      exact h
    · have h := h.2 c2
      refine EV.iload 52 rfl rfl dX8_subsetsOf_50 ?_
      refine EV.iload_n 53 rfl 1 rfl rfl dX8_subsetsOf_52 ?_
      refine EV.iconst 54 rfl dX8_subsetsOf_53 (v := (-1)) (by decide) ?_
      refine EV.ixor 55 rfl dX8_subsetsOf_54 ?_
      refine EV.iand 56 rfl dX8_subsetsOf_55 ?_
      refine EV.if_ne 59 79 rfl (by decide) dX8_subsetsOf_56 (fun c3 => ?_) (fun c3 => ?_)
      · have h := h.1 c3
        refine EV.iinc 82 rfl [some (.ref v0), some (.int v1), some (.int v2), some (.ref v3), some (.int (v4 + 1))] (v := 1) (by decide) (by decide) rfl rfl dX8_subsetsOf_79 ?_
        refine EV.goto 36 (by decide) dX8_subsetsOf_82 ?_
        exact h
      · have h := h.2 c3
        refine EV.iload_n 60 rfl 2 rfl rfl dX8_subsetsOf_59 ?_
        refine EV.iconst 61 rfl dX8_subsetsOf_60 (v := (-1)) (by decide) ?_
        refine EV.icmp_eq 64 73 rfl (by decide) dX8_subsetsOf_61 (fun c4 => ?_) (fun c4 => ?_)
        · have h := h.1 c4
          exact h
        · have h := h.2 c4
          refine EV.iload 66 rfl rfl dX8_subsetsOf_64 ?_
          refine EV.cS rfl lk_X8_148 rfl (vs := [.int v4]) (st := []) rfl rfl (Nat.le_of_ble_eq_true rfl) dX8_subsetsOf_66 h (fun v σ5 h => ?_)
          obtain ⟨r6, rfl, h⟩ := h
          show EV Γ MX8_subsetsOf d 69 [some (.ref v0), some (.int v1), some (.int v2), some (.ref v3), some (.int v4)] [.int r6] σ5 Q
          refine EV.iload_n 70 rfl 2 rfl rfl dX8_subsetsOf_69 ?_
          refine EV.icmp_ne 73 79 rfl (by decide) dX8_subsetsOf_70 (fun c7 => ?_) (fun c7 => ?_)
          · have h := h.1 c7
            refine EV.iinc 82 rfl [some (.ref v0), some (.int v1), some (.int v2), some (.ref v3), some (.int (v4 + 1))] (v := 1) (by decide) (by decide) rfl rfl dX8_subsetsOf_79 ?_
            refine EV.goto 36 (by decide) dX8_subsetsOf_82 ?_
            exact h
          · have h := h.2 c7
            exact h
theorem gX8_subsetsOf_73 {Γ : Gm} {d : Nat} {σ : AH} {Q : Oc → AH → Prop} {v0 : Nat} {v1 : Int32} {v2 : Int32} {v3 : Nat} {v4 : Int32} (h : CV Γ d MX7_put [.ref v3, .int v4] σ (fun σ1 => EV Γ MX8_subsetsOf d 36 [some (.ref v0), some (.int v1), some (.int v2), some (.ref v3), some (.int (v4 + 1))] [] σ1 Q) (fun _ _ => False)) : EV Γ MX8_subsetsOf d 73 [some (.ref v0), some (.int v1), some (.int v2), some (.ref v3), some (.int v4)] [] σ Q := by
  refine EV.aload_n 74 rfl 3 rfl rfl dX8_subsetsOf_73 ?_
  refine EV.iload 76 rfl rfl dX8_subsetsOf_74 ?_
  refine EV.cS rfl lk_X8_165 rfl (vs := [.ref v3, .int v4]) (st := []) rfl rfl (Nat.le_of_ble_eq_true rfl) dX8_subsetsOf_76 h (fun v σ1 h => ?_)
  obtain ⟨rfl, h⟩ := h
  show EV Γ MX8_subsetsOf d 79 [some (.ref v0), some (.int v1), some (.int v2), some (.ref v3), some (.int v4)] [] σ1 Q
  refine EV.iinc 82 rfl [some (.ref v0), some (.int v1), some (.int v2), some (.ref v3), some (.int (v4 + 1))] (v := 1) (by decide) (by decide) rfl rfl dX8_subsetsOf_79 ?_
  refine EV.goto 36 (by decide) dX8_subsetsOf_82 ?_
  exact h
theorem gX8_subsetsOf_85 {Γ : Gm} {d : Nat} {σ : AH} {Q : Oc → AH → Prop} {v0 : Nat} {v3 : Nat} (h : hs σ v0 = some (6, 17) ∧ CI Γ d MX8_addFamily [.ref v0, .ref v3] σ (fun r2 σ1 => Q (.inl (some (.int r2))) σ1) (fun E σ1 => Q (.inr E) σ1)) : EV Γ MX8_subsetsOf d 85 [some (.ref v0), none, none, some (.ref v3), none] [] σ Q := by
  refine EV.aload_n 86 rfl 0 rfl rfl dX8_subsetsOf_85 ?_
  refine EV.aload_n 87 rfl 3 rfl rfl dX8_subsetsOf_86 ?_
  obtain ⟨w3, h⟩ := h
  refine EV.cV rfl rfl lk_X8_120 rfl (vs := [.ref v3]) (st := []) rfl rfl (Nat.le_of_ble_eq_true rfl) dX8_subsetsOf_87 w3 h (fun v σ1 h => ?_)
  obtain ⟨r2, rfl, h⟩ := h
  show EV Γ MX8_subsetsOf d 90 [some (.ref v0), none, none, some (.ref v3), none] [.int r2] σ1 Q
  exact EV.iret rfl dX8_subsetsOf_90 h
theorem gX8_release_0 {Γ : Gm} {d : Nat} {σ : AH} {Q : Oc → AH → Prop} {v0 : Nat} {v1 : Int32} (h : hs σ v0 = some (6, 17) ∧ CR Γ d MX8_familyOf [.ref v0, .int v1] σ (fun r2 σ1 => hs σ1 v0 = some (6, 17) ∧ ∃ t5 : Nat, gr σ1 v0 11 = some t5 ∧ hs σ1 r2 = some (4, 3) ∧ ∃ t8 : Nat, gr σ1 r2 0 = some t8 ∧ hs σ1 t5 = some (3, 8) ∧ CI Γ d MX3_visit [.ref t5, .ref t8, .int (-1)] σ1 (fun r11 σ10 => hs σ10 v0 = some (6, 17) ∧ ∃ t14 : Nat, gr σ10 v0 5 = some t14 ∧ ∃ n17 : Nat, hs σ10 t14 = some (25, n17) ∧ ∃ j18 : Nat, IX v1 n17 j18 ∧ ∀ σ20 : AH, σ20 = setR σ10 t14 j18 none → ∀ σ24 : AH, σ24 = setI σ20 v0 7 ((gi σ20 v0 7) - 1) → Q (.inl (some (.int (gi σ24 v0 7)))) σ24) (fun E σ10 => Q (.inr E) σ10)) (fun E σ1 => Q (.inr E) σ1)) : EV Γ MX8_release d 0 [some (.ref v0), some (.int v1), none] [] σ Q := by
  refine EV.aload_n 1 rfl 0 rfl rfl dX8_release_0 ?_
  refine EV.iload_n 2 rfl 1 rfl rfl dX8_release_1 ?_
  obtain ⟨w3, h⟩ := h
  refine EV.cV rfl rfl lk_X8_124 rfl (vs := [.int v1]) (st := []) rfl rfl (Nat.le_of_ble_eq_true rfl) dX8_release_2 w3 h (fun v σ1 h => ?_)
  obtain ⟨r2, rfl, h⟩ := h
  show EV Γ MX8_release d 5 [some (.ref v0), some (.int v1), none] [.ref r2] σ1 Q
  refine EV.astore_n 6 rfl 2 [some (.ref v0), some (.int v1), some (.ref r2)] rfl (by decide) rfl dX8_release_5 ?_
  refine EV.aload_n 7 rfl 0 rfl rfl dX8_release_6 ?_
  obtain ⟨w4, h⟩ := h
  obtain ⟨t5, g6, h⟩ := h
  refine EV.getR 10 rfl fl_X8_59 rfl dX8_release_7 w4 g6 ?_
  refine EV.aload_n 11 rfl 2 rfl rfl dX8_release_10 ?_
  obtain ⟨w7, h⟩ := h
  obtain ⟨t8, g9, h⟩ := h
  refine EV.getR 14 rfl fl_X8_128 rfl dX8_release_11 w7 g9 ?_
  refine EV.iconst 15 rfl dX8_release_14 (v := (-1)) (by decide) ?_
  obtain ⟨w12, h⟩ := h
  refine EV.cV rfl rfl lk_X8_169 rfl (vs := [.ref t8, .int (-1)]) (st := []) rfl rfl (Nat.le_of_ble_eq_true rfl) dX8_release_15 w12 h (fun v σ10 h => ?_)
  obtain ⟨r11, rfl, h⟩ := h
  show EV Γ MX8_release d 18 [some (.ref v0), some (.int v1), some (.ref r2)] [.int r11] σ10 Q
  refine EV.pop 19 rfl dX8_release_18 rfl ?_
  refine EV.aload_n 20 rfl 0 rfl rfl dX8_release_19 ?_
  obtain ⟨w13, h⟩ := h
  obtain ⟨t14, g15, h⟩ := h
  refine EV.getR 23 rfl fl_X8_28 rfl dX8_release_20 w13 g15 ?_
  refine EV.iload_n 24 rfl 1 rfl rfl dX8_release_23 ?_
  refine EV.aconst_null 25 rfl dX8_release_24 ?_
  obtain ⟨n17, w16, h⟩ := h
  obtain ⟨j18, x19, h⟩ := h
  refine EV.aastN 26 rfl dX8_release_25 w16 x19 (EV.nm (fun σ20 e21 => ?_))
  have h := h σ20 e21
  have w22 := tr_hs (hs_setR_of e21) w13
  have w23 := tr_hs (hs_setR_of e21) w16
  refine EV.aload_n 27 rfl 0 rfl rfl dX8_release_26 ?_
  refine EV.dup 28 rfl dX8_release_27 rfl ?_
  refine EV.getI 31 rfl fl_X8_35 rfl dX8_release_28 w22 ?_
  refine EV.iconst 32 rfl dX8_release_31 (v := 1) (by decide) ?_
  refine EV.isub 33 rfl dX8_release_32 ?_
  refine EV.putI 36 rfl fw_X8_35 rfl (by decide) dX8_release_33 w22 (EV.nm (fun σ24 e25 => ?_))
  have h := h σ24 e25
  have w26 := tr_hs (hs_setI_of e25) w22
  have w27 := tr_hs (hs_setI_of e25) w23
  refine EV.aload_n 37 rfl 0 rfl rfl dX8_release_36 ?_
  refine EV.getI 40 rfl fl_X8_35 rfl dX8_release_37 w26 ?_
  exact EV.iret rfl dX8_release_40 h
theorem eX8_release {Γ : Gm} {d : Nat} {σ : AH} {Q : Oc → AH → Prop} {v0 : Nat} {v1 : Int32} (h : hs σ v0 = some (6, 17) ∧ CR Γ d MX8_familyOf [.ref v0, .int v1] σ (fun r2 σ1 => hs σ1 v0 = some (6, 17) ∧ ∃ t5 : Nat, gr σ1 v0 11 = some t5 ∧ hs σ1 r2 = some (4, 3) ∧ ∃ t8 : Nat, gr σ1 r2 0 = some t8 ∧ hs σ1 t5 = some (3, 8) ∧ CI Γ d MX3_visit [.ref t5, .ref t8, .int (-1)] σ1 (fun r11 σ10 => hs σ10 v0 = some (6, 17) ∧ ∃ t14 : Nat, gr σ10 v0 5 = some t14 ∧ ∃ n17 : Nat, hs σ10 t14 = some (25, n17) ∧ ∃ j18 : Nat, IX v1 n17 j18 ∧ ∀ σ20 : AH, σ20 = setR σ10 t14 j18 none → ∀ σ24 : AH, σ24 = setI σ20 v0 7 ((gi σ20 v0 7) - 1) → Q (.inl (some (.int (gi σ24 v0 7)))) σ24) (fun E σ10 => Q (.inr E) σ10)) (fun E σ1 => Q (.inr E) σ1)) : RUN Γ d MX8_release [.ref v0, .int v1] σ Q :=
  EV.enter [some (.ref v0), some (.int v1), none] rfl (by decide +kernel) (Nat.le_of_ble_eq_true rfl) rfl (gX8_release_0 h)
theorem gX8_createdCount_0 {Γ : Gm} {d : Nat} {σ : AH} {Q : Oc → AH → Prop} {v0 : Nat} (h : hs σ v0 = some (6, 17) ∧ Q (.inl (some (.int (gi σ v0 6)))) σ) : EV Γ MX8_createdCount d 0 [some (.ref v0)] [] σ Q := by
  refine EV.aload_n 1 rfl 0 rfl rfl dX8_createdCount_0 ?_
  obtain ⟨w1, h⟩ := h
  refine EV.getI 4 rfl fl_X8_32 rfl dX8_createdCount_1 w1 ?_
  exact EV.iret rfl dX8_createdCount_4 h
theorem eX8_createdCount {Γ : Gm} {d : Nat} {σ : AH} {Q : Oc → AH → Prop} {v0 : Nat} (h : hs σ v0 = some (6, 17) ∧ Q (.inl (some (.int (gi σ v0 6)))) σ) : RUN Γ d MX8_createdCount [.ref v0] σ Q :=
  EV.enter [some (.ref v0)] rfl (by decide +kernel) (Nat.le_of_ble_eq_true rfl) rfl (gX8_createdCount_0 h)
theorem gX8_nodeCount_0 {Γ : Gm} {d : Nat} {σ : AH} {Q : Oc → AH → Prop} {v0 : Nat} (h : hs σ v0 = some (6, 17) ∧ ∃ t2 : Nat, gr σ v0 11 = some t2 ∧ hs σ t2 = some (3, 8) ∧ Q (.inl (some (.int (gi σ t2 7)))) σ) : EV Γ MX8_nodeCount d 0 [some (.ref v0)] [] σ Q := by
  refine EV.aload_n 1 rfl 0 rfl rfl dX8_nodeCount_0 ?_
  obtain ⟨w1, h⟩ := h
  obtain ⟨t2, g3, h⟩ := h
  refine EV.getR 4 rfl fl_X8_59 rfl dX8_nodeCount_1 w1 g3 ?_
  obtain ⟨w4, h⟩ := h
  refine EV.getIN 7 rfl fn_X8_173 rfl dX8_nodeCount_4 w4 ?_
  exact EV.iret rfl dX8_nodeCount_7 h
theorem eX8_nodeCount {Γ : Gm} {d : Nat} {σ : AH} {Q : Oc → AH → Prop} {v0 : Nat} (h : hs σ v0 = some (6, 17) ∧ ∃ t2 : Nat, gr σ v0 11 = some t2 ∧ hs σ t2 = some (3, 8) ∧ Q (.inl (some (.int (gi σ t2 7)))) σ) : RUN Γ d MX8_nodeCount [.ref v0] σ Q :=
  EV.enter [some (.ref v0)] rfl (by decide +kernel) (Nat.le_of_ble_eq_true rfl) rfl (gX8_nodeCount_0 h)
theorem gX8_nodesOf_0 {Γ : Gm} {d : Nat} {σ : AH} {Q : Oc → AH → Prop} {v0 : Nat} {v1 : Int32} (h : hs σ v0 = some (6, 17) ∧ CR Γ d MX8_familyOf [.ref v0, .int v1] σ (fun r2 σ1 => hs σ1 r2 = some (4, 3) ∧ Q (.inl (some (.int (gi σ1 r2 2)))) σ1) (fun E σ1 => Q (.inr E) σ1)) : EV Γ MX8_nodesOf d 0 [some (.ref v0), some (.int v1)] [] σ Q := by
  refine EV.aload_n 1 rfl 0 rfl rfl dX8_nodesOf_0 ?_
  refine EV.iload_n 2 rfl 1 rfl rfl dX8_nodesOf_1 ?_
  obtain ⟨w3, h⟩ := h
  refine EV.cV rfl rfl lk_X8_124 rfl (vs := [.int v1]) (st := []) rfl rfl (Nat.le_of_ble_eq_true rfl) dX8_nodesOf_2 w3 h (fun v σ1 h => ?_)
  obtain ⟨r2, rfl, h⟩ := h
  show EV Γ MX8_nodesOf d 5 [some (.ref v0), some (.int v1)] [.ref r2] σ1 Q
  obtain ⟨w4, h⟩ := h
  refine EV.getI 8 rfl fl_X8_176 rfl dX8_nodesOf_5 w4 ?_
  exact EV.iret rfl dX8_nodesOf_8 h
theorem eX8_nodesOf {Γ : Gm} {d : Nat} {σ : AH} {Q : Oc → AH → Prop} {v0 : Nat} {v1 : Int32} (h : hs σ v0 = some (6, 17) ∧ CR Γ d MX8_familyOf [.ref v0, .int v1] σ (fun r2 σ1 => hs σ1 r2 = some (4, 3) ∧ Q (.inl (some (.int (gi σ1 r2 2)))) σ1) (fun E σ1 => Q (.inr E) σ1)) : RUN Γ d MX8_nodesOf [.ref v0, .int v1] σ Q :=
  EV.enter [some (.ref v0), some (.int v1)] rfl (by decide +kernel) (Nat.le_of_ble_eq_true rfl) rfl (gX8_nodesOf_0 h)
theorem gX8_checkMask_0 {Γ : Gm} {d : Nat} {σ : AH} {Q : Oc → AH → Prop} {v0 : Nat} {v1 : Int32} (h : ((v1 < 0 → EV Γ MX8_checkMask d 11 [none, none] [] σ Q) ∧ (¬ v1 < 0 → ((v1 < 4096 → Q (.inl none) σ) ∧ (¬ v1 < 4096 → EV Γ MX8_checkMask d 11 [none, none] [] σ Q))))) : EV Γ MX8_checkMask d 0 [some (.ref v0), some (.int v1)] [] σ Q := by
  refine EV.iload_n 1 rfl 1 rfl rfl dX8_checkMask_0 ?_
  refine EV.if_lt 4 11 rfl (by decide) dX8_checkMask_1 (fun c1 => ?_) (fun c1 => ?_)
  · have h := h.1 c1
    refine EV.mask [false, false] (L' := [none, none]) rfl ?_
    exact h
  · have h := h.2 c1
    refine EV.iload_n 5 rfl 1 rfl rfl dX8_checkMask_4 ?_
    refine EV.sipush 8 rfl dX8_checkMask_5 (v := 4096) (by decide) ?_
    refine EV.icmp_lt 11 19 rfl (by decide) dX8_checkMask_8 (fun c2 => ?_) (fun c2 => ?_)
    · have h := h.1 c2
      exact EV.vret rfl dX8_checkMask_19 h
    · have h := h.2 c2
      refine EV.mask [false, false] (L' := [none, none]) rfl ?_
      exact h
theorem eX8_checkMask {Γ : Gm} {d : Nat} {σ : AH} {Q : Oc → AH → Prop} {v0 : Nat} {v1 : Int32} (h : ((v1 < 0 → EV Γ MX8_checkMask d 11 [none, none] [] σ Q) ∧ (¬ v1 < 0 → ((v1 < 4096 → Q (.inl none) σ) ∧ (¬ v1 < 4096 → EV Γ MX8_checkMask d 11 [none, none] [] σ Q))))) : RUN Γ d MX8_checkMask [.ref v0, .int v1] σ Q :=
  EV.enter [some (.ref v0), some (.int v1)] rfl (by decide +kernel) (Nat.le_of_ble_eq_true rfl) rfl (gX8_checkMask_0 h)
theorem gX8_checkMask_11 {Γ : Gm} {d : Nat} {σ : AH} {Q : Oc → AH → Prop} (h : 6 ≤ d ∧ Q (.inr "java/lang/IllegalArgumentException") (thr σ)) : EV Γ MX8_checkMask d 11 [none, none] [] σ Q := by
  obtain ⟨z1, h⟩ := h
  exact EV.throw0 rfl th_X8_97 z1 dX8_checkMask_11 dX8_checkMask_14 dX8_checkMask_15 dX8_checkMask_18 h
theorem gX8_checkElement_0 {Γ : Gm} {d : Nat} {σ : AH} {Q : Oc → AH → Prop} {v0 : Nat} {v1 : Int32} (h : ((v1 < 0 → EV Γ MX8_checkElement d 10 [none, none] [] σ Q) ∧ (¬ v1 < 0 → ((v1 < 12 → Q (.inl none) σ) ∧ (¬ v1 < 12 → EV Γ MX8_checkElement d 10 [none, none] [] σ Q))))) : EV Γ MX8_checkElement d 0 [some (.ref v0), some (.int v1)] [] σ Q := by
  refine EV.iload_n 1 rfl 1 rfl rfl dX8_checkElement_0 ?_
  refine EV.if_lt 4 10 rfl (by decide) dX8_checkElement_1 (fun c1 => ?_) (fun c1 => ?_)
  · have h := h.1 c1
    refine EV.mask [false, false] (L' := [none, none]) rfl ?_
    exact h
  · have h := h.2 c1
    refine EV.iload_n 5 rfl 1 rfl rfl dX8_checkElement_4 ?_
    refine EV.bipush 7 rfl dX8_checkElement_5 (v := 12) (by decide) ?_
    refine EV.icmp_lt 10 18 rfl (by decide) dX8_checkElement_7 (fun c2 => ?_) (fun c2 => ?_)
    · have h := h.1 c2
      exact EV.vret rfl dX8_checkElement_18 h
    · have h := h.2 c2
      refine EV.mask [false, false] (L' := [none, none]) rfl ?_
      exact h
theorem eX8_checkElement {Γ : Gm} {d : Nat} {σ : AH} {Q : Oc → AH → Prop} {v0 : Nat} {v1 : Int32} (h : ((v1 < 0 → EV Γ MX8_checkElement d 10 [none, none] [] σ Q) ∧ (¬ v1 < 0 → ((v1 < 12 → Q (.inl none) σ) ∧ (¬ v1 < 12 → EV Γ MX8_checkElement d 10 [none, none] [] σ Q))))) : RUN Γ d MX8_checkElement [.ref v0, .int v1] σ Q :=
  EV.enter [some (.ref v0), some (.int v1)] rfl (by decide +kernel) (Nat.le_of_ble_eq_true rfl) rfl (gX8_checkElement_0 h)
theorem gX8_checkElement_10 {Γ : Gm} {d : Nat} {σ : AH} {Q : Oc → AH → Prop} (h : 6 ≤ d ∧ Q (.inr "java/lang/IndexOutOfBoundsException") (thr σ)) : EV Γ MX8_checkElement d 10 [none, none] [] σ Q := by
  obtain ⟨z1, h⟩ := h
  exact EV.throw0 rfl th_X8_159 z1 dX8_checkElement_10 dX8_checkElement_13 dX8_checkElement_14 dX8_checkElement_17 h
theorem gX8_checkCreated_0 {Γ : Gm} {d : Nat} {σ : AH} {Q : Oc → AH → Prop} {v0 : Nat} {v1 : Int32} (h : ((v1 < 0 → EV Γ MX8_checkCreated d 19 [none, none] [] σ Q) ∧ (¬ v1 < 0 → hs σ v0 = some (6, 17) ∧ (((gi σ v0 6) ≤ v1 → EV Γ MX8_checkCreated d 19 [none, none] [] σ Q) ∧ (¬ (gi σ v0 6) ≤ v1 → ((v1 < 200 → Q (.inl none) σ) ∧ (¬ v1 < 200 → EV Γ MX8_checkCreated d 19 [none, none] [] σ Q))))))) : EV Γ MX8_checkCreated d 0 [some (.ref v0), some (.int v1)] [] σ Q := by
  refine EV.iload_n 1 rfl 1 rfl rfl dX8_checkCreated_0 ?_
  refine EV.if_lt 4 19 rfl (by decide) dX8_checkCreated_1 (fun c1 => ?_) (fun c1 => ?_)
  · have h := h.1 c1
    refine EV.mask [false, false] (L' := [none, none]) rfl ?_
    exact h
  · have h := h.2 c1
    refine EV.iload_n 5 rfl 1 rfl rfl dX8_checkCreated_4 ?_
    refine EV.aload_n 6 rfl 0 rfl rfl dX8_checkCreated_5 ?_
    obtain ⟨w2, h⟩ := h
    refine EV.getI 9 rfl fl_X8_32 rfl dX8_checkCreated_6 w2 ?_
    refine EV.icmp_ge 12 19 rfl (by decide) dX8_checkCreated_9 (fun c3 => ?_) (fun c3 => ?_)
    · have h := h.1 c3
      refine EV.mask [false, false] (L' := [none, none]) rfl ?_
      exact h
    · have h := h.2 c3
      refine EV.iload_n 13 rfl 1 rfl rfl dX8_checkCreated_12 ?_
      refine EV.sipush 16 rfl dX8_checkCreated_13 (v := 200) (by decide) ?_
      refine EV.icmp_lt 19 27 rfl (by decide) dX8_checkCreated_16 (fun c4 => ?_) (fun c4 => ?_)
      · have h := h.1 c4
        exact EV.vret rfl dX8_checkCreated_27 h
      · have h := h.2 c4
        refine EV.mask [false, false] (L' := [none, none]) rfl ?_
        exact h
theorem eX8_checkCreated {Γ : Gm} {d : Nat} {σ : AH} {Q : Oc → AH → Prop} {v0 : Nat} {v1 : Int32} (h : ((v1 < 0 → EV Γ MX8_checkCreated d 19 [none, none] [] σ Q) ∧ (¬ v1 < 0 → hs σ v0 = some (6, 17) ∧ (((gi σ v0 6) ≤ v1 → EV Γ MX8_checkCreated d 19 [none, none] [] σ Q) ∧ (¬ (gi σ v0 6) ≤ v1 → ((v1 < 200 → Q (.inl none) σ) ∧ (¬ v1 < 200 → EV Γ MX8_checkCreated d 19 [none, none] [] σ Q))))))) : RUN Γ d MX8_checkCreated [.ref v0, .int v1] σ Q :=
  EV.enter [some (.ref v0), some (.int v1)] rfl (by decide +kernel) (Nat.le_of_ble_eq_true rfl) rfl (gX8_checkCreated_0 h)
theorem gX8_checkCreated_19 {Γ : Gm} {d : Nat} {σ : AH} {Q : Oc → AH → Prop} (h : 6 ≤ d ∧ Q (.inr "java/lang/IndexOutOfBoundsException") (thr σ)) : EV Γ MX8_checkCreated d 19 [none, none] [] σ Q := by
  obtain ⟨z1, h⟩ := h
  exact EV.throw0 rfl th_X8_159 z1 dX8_checkCreated_19 dX8_checkCreated_22 dX8_checkCreated_23 dX8_checkCreated_26 h
theorem gX8_checkRoom_0 {Γ : Gm} {d : Nat} {σ : AH} {Q : Oc → AH → Prop} {v0 : Nat} (h : hs σ v0 = some (6, 17) ∧ (((gi σ v0 6) < 200 → Q (.inl none) σ) ∧ (¬ (gi σ v0 6) < 200 → 6 ≤ d ∧ Q (.inr "java/lang/IllegalStateException") (thr σ)))) : EV Γ MX8_checkRoom d 0 [some (.ref v0)] [] σ Q := by
  refine EV.aload_n 1 rfl 0 rfl rfl dX8_checkRoom_0 ?_
  obtain ⟨w1, h⟩ := h
  refine EV.getI 4 rfl fl_X8_32 rfl dX8_checkRoom_1 w1 ?_
  refine EV.sipush 7 rfl dX8_checkRoom_4 (v := 200) (by decide) ?_
  refine EV.icmp_lt 10 18 rfl (by decide) dX8_checkRoom_7 (fun c2 => ?_) (fun c2 => ?_)
  · have h := h.1 c2
    exact EV.vret rfl dX8_checkRoom_18 h
  · have h := h.2 c2
    obtain ⟨z3, h⟩ := h
    exact EV.throw0 rfl th_X8_90 z3 dX8_checkRoom_10 dX8_checkRoom_13 dX8_checkRoom_14 dX8_checkRoom_17 h
theorem eX8_checkRoom {Γ : Gm} {d : Nat} {σ : AH} {Q : Oc → AH → Prop} {v0 : Nat} (h : hs σ v0 = some (6, 17) ∧ (((gi σ v0 6) < 200 → Q (.inl none) σ) ∧ (¬ (gi σ v0 6) < 200 → 6 ≤ d ∧ Q (.inr "java/lang/IllegalStateException") (thr σ)))) : RUN Γ d MX8_checkRoom [.ref v0] σ Q :=
  EV.enter [some (.ref v0)] rfl (by decide +kernel) (Nat.le_of_ble_eq_true rfl) rfl (gX8_checkRoom_0 h)
theorem gX8_familyOf_0 {Γ : Gm} {d : Nat} {σ : AH} {Q : Oc → AH → Prop} {v0 : Nat} {v1 : Int32} (h : hs σ v0 = some (6, 17) ∧ CV Γ d MX8_checkCreated [.ref v0, .int v1] σ (fun σ1 => hs σ1 v0 = some (6, 17) ∧ ∃ t5 : Nat, gr σ1 v0 5 = some t5 ∧ ∃ n8 : Nat, hs σ1 t5 = some (25, n8) ∧ ∃ j9 : Nat, IX v1 n8 j9 ∧ ((gr σ1 t5 j9 = none → 6 ≤ d ∧ Q (.inr "java/util/NoSuchElementException") (thr σ1)) ∧ (∀ t11 : Nat, gr σ1 t5 j9 = some t11 → Q (.inl (some (.ref t11))) σ1))) (fun E σ1 => Q (.inr E) σ1)) : EV Γ MX8_familyOf d 0 [some (.ref v0), some (.int v1), none] [] σ Q := by
  refine EV.aload_n 1 rfl 0 rfl rfl dX8_familyOf_0 ?_
  refine EV.iload_n 2 rfl 1 rfl rfl dX8_familyOf_1 ?_
  obtain ⟨w3, h⟩ := h
  refine EV.cV rfl rfl lk_X8_179 rfl (vs := [.int v1]) (st := []) rfl rfl (Nat.le_of_ble_eq_true rfl) dX8_familyOf_2 w3 h (fun v σ1 h => ?_)
  obtain ⟨rfl, h⟩ := h
  show EV Γ MX8_familyOf d 5 [some (.ref v0), some (.int v1), none] [] σ1 Q
  refine EV.aload_n 6 rfl 0 rfl rfl dX8_familyOf_5 ?_
  obtain ⟨w4, h⟩ := h
  obtain ⟨t5, g6, h⟩ := h
  refine EV.getR 9 rfl fl_X8_28 rfl dX8_familyOf_6 w4 g6 ?_
  refine EV.iload_n 10 rfl 1 rfl rfl dX8_familyOf_9 ?_
  obtain ⟨n8, w7, h⟩ := h
  obtain ⟨j9, x10, h⟩ := h
  refine EV.aaldF 11 rfl dX8_familyOf_10 w7 x10 ?_
  rcases g12 : gr σ1 t5 j9 with _ | t11
  · have h := h.1 g12
    show EV Γ MX8_familyOf d 11 [some (.ref v0), some (.int v1), none] [.null] σ1 Q
    refine EV.astore_nQ 12 rfl 2 [some (.ref v0), some (.int v1), some (.null)] (r := none) rfl (by decide) rfl dX8_familyOf_11 ?_
    refine EV.aload_nQ 13 rfl 2 (r := none) rfl rfl dX8_familyOf_12 ?_
    refine EV.ifnonnull 16 24 rfl (r := none) (by decide) dX8_familyOf_13 (fun _ hh => by cases hh) (fun _ => ?_)
    obtain ⟨z13, h⟩ := h
    exact EV.throw0 rfl th_X8_182 z13 dX8_familyOf_16 dX8_familyOf_19 dX8_familyOf_20 dX8_familyOf_23 h
  · have h := h.2 t11 g12
    show EV Γ MX8_familyOf d 11 [some (.ref v0), some (.int v1), none] [.ref t11] σ1 Q
    refine EV.astore_n 12 rfl 2 [some (.ref v0), some (.int v1), some (.ref t11)] rfl (by decide) rfl dX8_familyOf_11 ?_
    refine EV.aload_n 13 rfl 2 rfl rfl dX8_familyOf_12 ?_
    refine EV.ifnonnull 16 24 rfl (r := some t11) (by decide) dX8_familyOf_13 (fun _ _ => ?_) (fun hh => by cases hh)
    refine EV.aload_n 25 rfl 2 rfl rfl dX8_familyOf_24 ?_
    exact EV.aret rfl (Or.inl ⟨_, rfl⟩) dX8_familyOf_25 h
theorem eX8_familyOf {Γ : Gm} {d : Nat} {σ : AH} {Q : Oc → AH → Prop} {v0 : Nat} {v1 : Int32} (h : hs σ v0 = some (6, 17) ∧ CV Γ d MX8_checkCreated [.ref v0, .int v1] σ (fun σ1 => hs σ1 v0 = some (6, 17) ∧ ∃ t5 : Nat, gr σ1 v0 5 = some t5 ∧ ∃ n8 : Nat, hs σ1 t5 = some (25, n8) ∧ ∃ j9 : Nat, IX v1 n8 j9 ∧ ((gr σ1 t5 j9 = none → 6 ≤ d ∧ Q (.inr "java/util/NoSuchElementException") (thr σ1)) ∧ (∀ t11 : Nat, gr σ1 t5 j9 = some t11 → Q (.inl (some (.ref t11))) σ1))) (fun E σ1 => Q (.inr E) σ1)) : RUN Γ d MX8_familyOf [.ref v0, .int v1] σ Q :=
  EV.enter [some (.ref v0), some (.int v1), none] rfl (by decide +kernel) (Nat.le_of_ble_eq_true rfl) rfl (gX8_familyOf_0 h)
theorem gX8_filledFamilyOf_0 {Γ : Gm} {d : Nat} {σ : AH} {Q : Oc → AH → Prop} {v0 : Nat} {v1 : Int32} (h : hs σ v0 = some (6, 17) ∧ CR Γ d MX8_familyOf [.ref v0, .int v1] σ (fun r2 σ1 => hs σ1 r2 = some (4, 3) ∧ (((gi σ1 r2 1) ≠ 0 → Q (.inl (some (.ref r2))) σ1) ∧ ((gi σ1 r2 1) = 0 → 6 ≤ d ∧ Q (.inr "java/util/NoSuchElementException") (thr σ1)))) (fun E σ1 => Q (.inr E) σ1)) : EV Γ MX8_filledFamilyOf d 0 [some (.ref v0), some (.int v1), none] [] σ Q := by
  refine EV.aload_n 1 rfl 0 rfl rfl dX8_filledFamilyOf_0 ?_
  refine EV.iload_n 2 rfl 1 rfl rfl dX8_filledFamilyOf_1 ?_
  obtain ⟨w3, h⟩ := h
  refine EV.cV rfl rfl lk_X8_124 rfl (vs := [.int v1]) (st := []) rfl rfl (Nat.le_of_ble_eq_true rfl) dX8_filledFamilyOf_2 w3 h (fun v σ1 h => ?_)
  obtain ⟨r2, rfl, h⟩ := h
  show EV Γ MX8_filledFamilyOf d 5 [some (.ref v0), some (.int v1), none] [.ref r2] σ1 Q
  refine EV.astore_n 6 rfl 2 [some (.ref v0), some (.int v1), some (.ref r2)] rfl (by decide) rfl dX8_filledFamilyOf_5 ?_
  refine EV.aload_n 7 rfl 2 rfl rfl dX8_filledFamilyOf_6 ?_
  obtain ⟨w4, h⟩ := h
  refine EV.getI 10 rfl fl_X8_185 rfl dX8_filledFamilyOf_7 w4 ?_
  refine EV.if_ne 13 21 rfl (by decide) dX8_filledFamilyOf_10 (fun c5 => ?_) (fun c5 => ?_)
  · have h := h.1 c5
    refine EV.aload_n 22 rfl 2 rfl rfl dX8_filledFamilyOf_21 ?_
    exact EV.aret rfl (Or.inl ⟨_, rfl⟩) dX8_filledFamilyOf_22 h
  · have h := h.2 c5
    obtain ⟨z6, h⟩ := h
    exact EV.throw0 rfl th_X8_182 z6 dX8_filledFamilyOf_13 dX8_filledFamilyOf_16 dX8_filledFamilyOf_17 dX8_filledFamilyOf_20 h
theorem eX8_filledFamilyOf {Γ : Gm} {d : Nat} {σ : AH} {Q : Oc → AH → Prop} {v0 : Nat} {v1 : Int32} (h : hs σ v0 = some (6, 17) ∧ CR Γ d MX8_familyOf [.ref v0, .int v1] σ (fun r2 σ1 => hs σ1 r2 = some (4, 3) ∧ (((gi σ1 r2 1) ≠ 0 → Q (.inl (some (.ref r2))) σ1) ∧ ((gi σ1 r2 1) = 0 → 6 ≤ d ∧ Q (.inr "java/util/NoSuchElementException") (thr σ1)))) (fun E σ1 => Q (.inr E) σ1)) : RUN Γ d MX8_filledFamilyOf [.ref v0, .int v1] σ Q :=
  EV.enter [some (.ref v0), some (.int v1), none] rfl (by decide +kernel) (Nat.le_of_ble_eq_true rfl) rfl (gX8_filledFamilyOf_0 h)
theorem gX8_addFamily_0 {Γ : Gm} {d : Nat} {σ : AH} {Q : Oc → AH → Prop} {v0 : Nat} {v1 : Nat} (h : hs σ v0 = some (6, 17) ∧ CV Γ d MX8_checkRoom [.ref v0] σ (fun σ1 => hs σ1 v0 = some (6, 17) ∧ ∃ t5 : Nat, gr σ1 v0 5 = some t5 ∧ ∀ (q7 : Nat) (σ8 : AH), q7 = lo Γ + hc σ1 → σ8 = mk σ1 q7 4 3 → CI Γ d MX7_size [.ref v1] σ8 (fun r11 σ10 => hs σ10 v0 = some (6, 17) ∧ ∃ t13 : Nat, gr σ10 v0 11 = some t13 ∧ hs σ10 t13 = some (3, 8) ∧ CI Γ d MX3_visit [.ref t13, .ref v1, .int 1] σ10 (fun r16 σ15 => CV Γ d MX4_init [.ref q7, .ref v1, .int r11, .int r16] σ15 (fun σ18 => ∃ n21 : Nat, hs σ18 t5 = some (25, n21) ∧ ∃ j22 : Nat, IX (gi σ1 v0 6) n21 j22 ∧ hs σ18 q7 = some (4, 3) ∧ ∀ σ25 : AH, σ25 = setR σ18 t5 j22 (some q7) → hs σ25 v0 = some (6, 17) ∧ ∀ σ30 : AH, σ30 = setI σ25 v0 6 ((gi σ25 v0 6) + 1) → ∀ σ35 : AH, σ35 = setI σ30 v0 7 ((gi σ30 v0 7) + 1) → Q (.inl (some (.int ((gi σ35 v0 6) - 1)))) σ35) (fun _ _ => False)) (fun E σ15 => Q (.inr E) σ15)) (fun _ _ => False)) (fun E σ1 => Q (.inr E) σ1)) : EV Γ MX8_addFamily d 0 [some (.ref v0), some (.ref v1)] [] σ Q := by
  refine EV.aload_n 1 rfl 0 rfl rfl dX8_addFamily_0 ?_
  obtain ⟨w3, h⟩ := h
  refine EV.cV rfl rfl lk_X8_104 rfl (vs := []) (st := []) rfl rfl (Nat.le_of_ble_eq_true rfl) dX8_addFamily_1 w3 h (fun v σ1 h => ?_)
  obtain ⟨rfl, h⟩ := h
  show EV Γ MX8_addFamily d 4 [some (.ref v0), some (.ref v1)] [] σ1 Q
  refine EV.aload_n 5 rfl 0 rfl rfl dX8_addFamily_4 ?_
  obtain ⟨w4, h⟩ := h
  obtain ⟨t5, g6, h⟩ := h
  refine EV.getR 8 rfl fl_X8_28 rfl dX8_addFamily_5 w4 g6 ?_
  refine EV.aload_n 9 rfl 0 rfl rfl dX8_addFamily_8 ?_
  refine EV.getI 12 rfl fl_X8_32 rfl dX8_addFamily_9 w4 ?_
  refine EV.new 15 rfl nl_X8_26 (n := 3) rfl dX8_addFamily_12 (EV.nq (fun q7 σ8 eq7 eσ8 => ?_))
  have h := h q7 σ8 eq7 eσ8
  have w9 : hs σ8 q7 = some (4, 3) := by rw [eσ8]; exact up_same _ _ _
  refine EV.dup 16 rfl dX8_addFamily_15 rfl ?_
  refine EV.aload_n 17 rfl 1 rfl rfl dX8_addFamily_16 ?_
  refine EV.aload_n 18 rfl 1 rfl rfl dX8_addFamily_17 ?_
  refine EV.cS rfl lk_X8_188 rfl (vs := [.ref v1]) (st := [.ref v1, .ref q7, .ref q7, .int (gi σ1 v0 6), .ref t5]) rfl rfl (Nat.le_of_ble_eq_true rfl) dX8_addFamily_18 h (fun v σ10 h => ?_)
  obtain ⟨r11, rfl, h⟩ := h
  show EV Γ MX8_addFamily d 21 [some (.ref v0), some (.ref v1)] [.int r11, .ref v1, .ref q7, .ref q7, .int (gi σ1 v0 6), .ref t5] σ10 Q
  refine EV.aload_n 22 rfl 0 rfl rfl dX8_addFamily_21 ?_
  obtain ⟨w12, h⟩ := h
  obtain ⟨t13, g14, h⟩ := h
  refine EV.getR 25 rfl fl_X8_59 rfl dX8_addFamily_22 w12 g14 ?_
  refine EV.aload_n 26 rfl 1 rfl rfl dX8_addFamily_25 ?_
  refine EV.iconst 27 rfl dX8_addFamily_26 (v := 1) (by decide) ?_
  obtain ⟨w17, h⟩ := h
  refine EV.cV rfl rfl lk_X8_169 rfl (vs := [.ref v1, .int 1]) (st := [.int r11, .ref v1, .ref q7, .ref q7, .int (gi σ1 v0 6), .ref t5]) rfl rfl (Nat.le_of_ble_eq_true rfl) dX8_addFamily_27 w17 h (fun v σ15 h => ?_)
  obtain ⟨r16, rfl, h⟩ := h
  show EV Γ MX8_addFamily d 30 [some (.ref v0), some (.ref v1)] [.int r16, .int r11, .ref v1, .ref q7, .ref q7, .int (gi σ1 v0 6), .ref t5] σ15 Q
  refine EV.cI rfl lk_X8_191 rfl rfl (vs := [.ref v1, .int r11, .int r16]) (st := [.ref q7, .int (gi σ1 v0 6), .ref t5]) rfl rfl (Nat.le_of_ble_eq_true rfl) dX8_addFamily_30 h (fun  σ18 h => ?_)
  obtain ⟨n21, w20, h⟩ := h
  obtain ⟨j22, x23, h⟩ := h
  obtain ⟨w24, h⟩ := h
  refine EV.aastF 34 rfl dX8_addFamily_33 w20 x23 w24 (EV.nm (fun σ25 e26 => ?_))
  have h := h σ25 e26
  have w27 := tr_hs (hs_setR_of e26) w20
  have w28 := tr_hs (hs_setR_of e26) w24
  refine EV.aload_n 35 rfl 0 rfl rfl dX8_addFamily_34 ?_
  refine EV.dup 36 rfl dX8_addFamily_35 rfl ?_
  obtain ⟨w29, h⟩ := h
  refine EV.getI 39 rfl fl_X8_32 rfl dX8_addFamily_36 w29 ?_
  refine EV.iconst 40 rfl dX8_addFamily_39 (v := 1) (by decide) ?_
  refine EV.iadd 41 rfl dX8_addFamily_40 ?_
  refine EV.putI 44 rfl fw_X8_32 rfl (by decide) dX8_addFamily_41 w29 (EV.nm (fun σ30 e31 => ?_))
  have h := h σ30 e31
  have w32 := tr_hs (hs_setI_of e31) w27
  have w33 := tr_hs (hs_setI_of e31) w28
  have w34 := tr_hs (hs_setI_of e31) w29
  refine EV.aload_n 45 rfl 0 rfl rfl dX8_addFamily_44 ?_
  refine EV.dup 46 rfl dX8_addFamily_45 rfl ?_
  refine EV.getI 49 rfl fl_X8_35 rfl dX8_addFamily_46 w34 ?_
  refine EV.iconst 50 rfl dX8_addFamily_49 (v := 1) (by decide) ?_
  refine EV.iadd 51 rfl dX8_addFamily_50 ?_
  refine EV.putI 54 rfl fw_X8_35 rfl (by decide) dX8_addFamily_51 w34 (EV.nm (fun σ35 e36 => ?_))
  have h := h σ35 e36
  have w37 := tr_hs (hs_setI_of e36) w32
  have w38 := tr_hs (hs_setI_of e36) w33
  have w39 := tr_hs (hs_setI_of e36) w34
  refine EV.aload_n 55 rfl 0 rfl rfl dX8_addFamily_54 ?_
  refine EV.getI 58 rfl fl_X8_32 rfl dX8_addFamily_55 w39 ?_
  refine EV.iconst 59 rfl dX8_addFamily_58 (v := 1) (by decide) ?_
  refine EV.isub 60 rfl dX8_addFamily_59 ?_
  exact EV.iret rfl dX8_addFamily_60 h
theorem eX8_addFamily {Γ : Gm} {d : Nat} {σ : AH} {Q : Oc → AH → Prop} {v0 : Nat} {v1 : Nat} (h : hs σ v0 = some (6, 17) ∧ CV Γ d MX8_checkRoom [.ref v0] σ (fun σ1 => hs σ1 v0 = some (6, 17) ∧ ∃ t5 : Nat, gr σ1 v0 5 = some t5 ∧ ∀ (q7 : Nat) (σ8 : AH), q7 = lo Γ + hc σ1 → σ8 = mk σ1 q7 4 3 → CI Γ d MX7_size [.ref v1] σ8 (fun r11 σ10 => hs σ10 v0 = some (6, 17) ∧ ∃ t13 : Nat, gr σ10 v0 11 = some t13 ∧ hs σ10 t13 = some (3, 8) ∧ CI Γ d MX3_visit [.ref t13, .ref v1, .int 1] σ10 (fun r16 σ15 => CV Γ d MX4_init [.ref q7, .ref v1, .int r11, .int r16] σ15 (fun σ18 => ∃ n21 : Nat, hs σ18 t5 = some (25, n21) ∧ ∃ j22 : Nat, IX (gi σ1 v0 6) n21 j22 ∧ hs σ18 q7 = some (4, 3) ∧ ∀ σ25 : AH, σ25 = setR σ18 t5 j22 (some q7) → hs σ25 v0 = some (6, 17) ∧ ∀ σ30 : AH, σ30 = setI σ25 v0 6 ((gi σ25 v0 6) + 1) → ∀ σ35 : AH, σ35 = setI σ30 v0 7 ((gi σ30 v0 7) + 1) → Q (.inl (some (.int ((gi σ35 v0 6) - 1)))) σ35) (fun _ _ => False)) (fun E σ15 => Q (.inr E) σ15)) (fun _ _ => False)) (fun E σ1 => Q (.inr E) σ1)) : RUN Γ d MX8_addFamily [.ref v0, .ref v1] σ Q :=
  EV.enter [some (.ref v0), some (.ref v1)] rfl (by decide +kernel) (Nat.le_of_ble_eq_true rfl) rfl (gX8_addFamily_0 h)
theorem gX8_union_0 {Γ : Gm} {d : Nat} {σ : AH} {Q : Oc → AH → Prop} {v0 : Nat} {v1 : Int32} {v2 : Int32} (h : hs σ v0 = some (6, 17) ∧ CI Γ d MX8_addOfTwo [.ref v0, .int v1, .int v2, .int 43] σ (fun r2 σ1 => Q (.inl (some (.int r2))) σ1) (fun E σ1 => Q (.inr E) σ1)) : EV Γ MX8_union d 0 [some (.ref v0), some (.int v1), some (.int v2)] [] σ Q := by
  refine EV.aload_n 1 rfl 0 rfl rfl dX8_union_0 ?_
  refine EV.iload_n 2 rfl 1 rfl rfl dX8_union_1 ?_
  refine EV.iload_n 3 rfl 2 rfl rfl dX8_union_2 ?_
  refine EV.bipush 5 rfl dX8_union_3 (v := 43) (by decide) ?_
  obtain ⟨w3, h⟩ := h
  refine EV.cV rfl rfl lk_X8_194 rfl (vs := [.int v1, .int v2, .int 43]) (st := []) rfl rfl (Nat.le_of_ble_eq_true rfl) dX8_union_5 w3 h (fun v σ1 h => ?_)
  obtain ⟨r2, rfl, h⟩ := h
  show EV Γ MX8_union d 8 [some (.ref v0), some (.int v1), some (.int v2)] [.int r2] σ1 Q
  exact EV.iret rfl dX8_union_8 h
theorem eX8_union {Γ : Gm} {d : Nat} {σ : AH} {Q : Oc → AH → Prop} {v0 : Nat} {v1 : Int32} {v2 : Int32} (h : hs σ v0 = some (6, 17) ∧ CI Γ d MX8_addOfTwo [.ref v0, .int v1, .int v2, .int 43] σ (fun r2 σ1 => Q (.inl (some (.int r2))) σ1) (fun E σ1 => Q (.inr E) σ1)) : RUN Γ d MX8_union [.ref v0, .int v1, .int v2] σ Q :=
  EV.enter [some (.ref v0), some (.int v1), some (.int v2)] rfl (by decide +kernel) (Nat.le_of_ble_eq_true rfl) rfl (gX8_union_0 h)
theorem gX8_intersection_0 {Γ : Gm} {d : Nat} {σ : AH} {Q : Oc → AH → Prop} {v0 : Nat} {v1 : Int32} {v2 : Int32} (h : hs σ v0 = some (6, 17) ∧ CI Γ d MX8_addOfTwo [.ref v0, .int v1, .int v2, .int 38] σ (fun r2 σ1 => Q (.inl (some (.int r2))) σ1) (fun E σ1 => Q (.inr E) σ1)) : EV Γ MX8_intersection d 0 [some (.ref v0), some (.int v1), some (.int v2)] [] σ Q := by
  refine EV.aload_n 1 rfl 0 rfl rfl dX8_intersection_0 ?_
  refine EV.iload_n 2 rfl 1 rfl rfl dX8_intersection_1 ?_
  refine EV.iload_n 3 rfl 2 rfl rfl dX8_intersection_2 ?_
  refine EV.bipush 5 rfl dX8_intersection_3 (v := 38) (by decide) ?_
  obtain ⟨w3, h⟩ := h
  refine EV.cV rfl rfl lk_X8_194 rfl (vs := [.int v1, .int v2, .int 38]) (st := []) rfl rfl (Nat.le_of_ble_eq_true rfl) dX8_intersection_5 w3 h (fun v σ1 h => ?_)
  obtain ⟨r2, rfl, h⟩ := h
  show EV Γ MX8_intersection d 8 [some (.ref v0), some (.int v1), some (.int v2)] [.int r2] σ1 Q
  exact EV.iret rfl dX8_intersection_8 h
theorem eX8_intersection {Γ : Gm} {d : Nat} {σ : AH} {Q : Oc → AH → Prop} {v0 : Nat} {v1 : Int32} {v2 : Int32} (h : hs σ v0 = some (6, 17) ∧ CI Γ d MX8_addOfTwo [.ref v0, .int v1, .int v2, .int 38] σ (fun r2 σ1 => Q (.inl (some (.int r2))) σ1) (fun E σ1 => Q (.inr E) σ1)) : RUN Γ d MX8_intersection [.ref v0, .int v1, .int v2] σ Q :=
  EV.enter [some (.ref v0), some (.int v1), some (.int v2)] rfl (by decide +kernel) (Nat.le_of_ble_eq_true rfl) rfl (gX8_intersection_0 h)
theorem gX8_difference_0 {Γ : Gm} {d : Nat} {σ : AH} {Q : Oc → AH → Prop} {v0 : Nat} {v1 : Int32} {v2 : Int32} (h : hs σ v0 = some (6, 17) ∧ CI Γ d MX8_addOfTwo [.ref v0, .int v1, .int v2, .int 45] σ (fun r2 σ1 => Q (.inl (some (.int r2))) σ1) (fun E σ1 => Q (.inr E) σ1)) : EV Γ MX8_difference d 0 [some (.ref v0), some (.int v1), some (.int v2)] [] σ Q := by
  refine EV.aload_n 1 rfl 0 rfl rfl dX8_difference_0 ?_
  refine EV.iload_n 2 rfl 1 rfl rfl dX8_difference_1 ?_
  refine EV.iload_n 3 rfl 2 rfl rfl dX8_difference_2 ?_
  refine EV.bipush 5 rfl dX8_difference_3 (v := 45) (by decide) ?_
  obtain ⟨w3, h⟩ := h
  refine EV.cV rfl rfl lk_X8_194 rfl (vs := [.int v1, .int v2, .int 45]) (st := []) rfl rfl (Nat.le_of_ble_eq_true rfl) dX8_difference_5 w3 h (fun v σ1 h => ?_)
  obtain ⟨r2, rfl, h⟩ := h
  show EV Γ MX8_difference d 8 [some (.ref v0), some (.int v1), some (.int v2)] [.int r2] σ1 Q
  exact EV.iret rfl dX8_difference_8 h
theorem eX8_difference {Γ : Gm} {d : Nat} {σ : AH} {Q : Oc → AH → Prop} {v0 : Nat} {v1 : Int32} {v2 : Int32} (h : hs σ v0 = some (6, 17) ∧ CI Γ d MX8_addOfTwo [.ref v0, .int v1, .int v2, .int 45] σ (fun r2 σ1 => Q (.inl (some (.int r2))) σ1) (fun E σ1 => Q (.inr E) σ1)) : RUN Γ d MX8_difference [.ref v0, .int v1, .int v2] σ Q :=
  EV.enter [some (.ref v0), some (.int v1), some (.int v2)] rfl (by decide +kernel) (Nat.le_of_ble_eq_true rfl) rfl (gX8_difference_0 h)
theorem gX8_join_0 {Γ : Gm} {d : Nat} {σ : AH} {Q : Oc → AH → Prop} {v0 : Nat} {v1 : Int32} {v2 : Int32} (h : hs σ v0 = some (6, 17) ∧ CI Γ d MX8_addOfTwo [.ref v0, .int v1, .int v2, .int 42] σ (fun r2 σ1 => Q (.inl (some (.int r2))) σ1) (fun E σ1 => Q (.inr E) σ1)) : EV Γ MX8_join d 0 [some (.ref v0), some (.int v1), some (.int v2)] [] σ Q := by
  refine EV.aload_n 1 rfl 0 rfl rfl dX8_join_0 ?_
  refine EV.iload_n 2 rfl 1 rfl rfl dX8_join_1 ?_
  refine EV.iload_n 3 rfl 2 rfl rfl dX8_join_2 ?_
  refine EV.bipush 5 rfl dX8_join_3 (v := 42) (by decide) ?_
  obtain ⟨w3, h⟩ := h
  refine EV.cV rfl rfl lk_X8_194 rfl (vs := [.int v1, .int v2, .int 42]) (st := []) rfl rfl (Nat.le_of_ble_eq_true rfl) dX8_join_5 w3 h (fun v σ1 h => ?_)
  obtain ⟨r2, rfl, h⟩ := h
  show EV Γ MX8_join d 8 [some (.ref v0), some (.int v1), some (.int v2)] [.int r2] σ1 Q
  exact EV.iret rfl dX8_join_8 h
theorem eX8_join {Γ : Gm} {d : Nat} {σ : AH} {Q : Oc → AH → Prop} {v0 : Nat} {v1 : Int32} {v2 : Int32} (h : hs σ v0 = some (6, 17) ∧ CI Γ d MX8_addOfTwo [.ref v0, .int v1, .int v2, .int 42] σ (fun r2 σ1 => Q (.inl (some (.int r2))) σ1) (fun E σ1 => Q (.inr E) σ1)) : RUN Γ d MX8_join [.ref v0, .int v1, .int v2] σ Q :=
  EV.enter [some (.ref v0), some (.int v1), some (.int v2)] rfl (by decide +kernel) (Nat.le_of_ble_eq_true rfl) rfl (gX8_join_0 h)
theorem gX8_meet_0 {Γ : Gm} {d : Nat} {σ : AH} {Q : Oc → AH → Prop} {v0 : Nat} {v1 : Int32} {v2 : Int32} (h : hs σ v0 = some (6, 17) ∧ CI Γ d MX8_addOfTwo [.ref v0, .int v1, .int v2, .int 1] σ (fun r2 σ1 => Q (.inl (some (.int r2))) σ1) (fun E σ1 => Q (.inr E) σ1)) : EV Γ MX8_meet d 0 [some (.ref v0), some (.int v1), some (.int v2)] [] σ Q := by
  refine EV.aload_n 1 rfl 0 rfl rfl dX8_meet_0 ?_
  refine EV.iload_n 2 rfl 1 rfl rfl dX8_meet_1 ?_
  refine EV.iload_n 3 rfl 2 rfl rfl dX8_meet_2 ?_
  refine EV.iconst 4 rfl dX8_meet_3 (v := 1) (by decide) ?_
  obtain ⟨w3, h⟩ := h
  refine EV.cV rfl rfl lk_X8_194 rfl (vs := [.int v1, .int v2, .int 1]) (st := []) rfl rfl (Nat.le_of_ble_eq_true rfl) dX8_meet_4 w3 h (fun v σ1 h => ?_)
  obtain ⟨r2, rfl, h⟩ := h
  show EV Γ MX8_meet d 7 [some (.ref v0), some (.int v1), some (.int v2)] [.int r2] σ1 Q
  exact EV.iret rfl dX8_meet_7 h
theorem eX8_meet {Γ : Gm} {d : Nat} {σ : AH} {Q : Oc → AH → Prop} {v0 : Nat} {v1 : Int32} {v2 : Int32} (h : hs σ v0 = some (6, 17) ∧ CI Γ d MX8_addOfTwo [.ref v0, .int v1, .int v2, .int 1] σ (fun r2 σ1 => Q (.inl (some (.int r2))) σ1) (fun E σ1 => Q (.inr E) σ1)) : RUN Γ d MX8_meet [.ref v0, .int v1, .int v2] σ Q :=
  EV.enter [some (.ref v0), some (.int v1), some (.int v2)] rfl (by decide +kernel) (Nat.le_of_ble_eq_true rfl) rfl (gX8_meet_0 h)
theorem gX8_quotient_0 {Γ : Gm} {d : Nat} {σ : AH} {Q : Oc → AH → Prop} {v0 : Nat} {v1 : Int32} {v2 : Int32} (h : hs σ v0 = some (6, 17) ∧ CI Γ d MX8_addOfTwo [.ref v0, .int v1, .int v2, .int 47] σ (fun r2 σ1 => Q (.inl (some (.int r2))) σ1) (fun E σ1 => Q (.inr E) σ1)) : EV Γ MX8_quotient d 0 [some (.ref v0), some (.int v1), some (.int v2)] [] σ Q := by
  refine EV.aload_n 1 rfl 0 rfl rfl dX8_quotient_0 ?_
  refine EV.iload_n 2 rfl 1 rfl rfl dX8_quotient_1 ?_
  refine EV.iload_n 3 rfl 2 rfl rfl dX8_quotient_2 ?_
  refine EV.bipush 5 rfl dX8_quotient_3 (v := 47) (by decide) ?_
  obtain ⟨w3, h⟩ := h
  refine EV.cV rfl rfl lk_X8_194 rfl (vs := [.int v1, .int v2, .int 47]) (st := []) rfl rfl (Nat.le_of_ble_eq_true rfl) dX8_quotient_5 w3 h (fun v σ1 h => ?_)
  obtain ⟨r2, rfl, h⟩ := h
  show EV Γ MX8_quotient d 8 [some (.ref v0), some (.int v1), some (.int v2)] [.int r2] σ1 Q
  exact EV.iret rfl dX8_quotient_8 h
theorem eX8_quotient {Γ : Gm} {d : Nat} {σ : AH} {Q : Oc → AH → Prop} {v0 : Nat} {v1 : Int32} {v2 : Int32} (h : hs σ v0 = some (6, 17) ∧ CI Γ d MX8_addOfTwo [.ref v0, .int v1, .int v2, .int 47] σ (fun r2 σ1 => Q (.inl (some (.int r2))) σ1) (fun E σ1 => Q (.inr E) σ1)) : RUN Γ d MX8_quotient [.ref v0, .int v1, .int v2] σ Q :=
  EV.enter [some (.ref v0), some (.int v1), some (.int v2)] rfl (by decide +kernel) (Nat.le_of_ble_eq_true rfl) rfl (gX8_quotient_0 h)
theorem gX8_remainder_0 {Γ : Gm} {d : Nat} {σ : AH} {Q : Oc → AH → Prop} {v0 : Nat} {v1 : Int32} {v2 : Int32} (h : hs σ v0 = some (6, 17) ∧ CI Γ d MX8_addOfTwo [.ref v0, .int v1, .int v2, .int 37] σ (fun r2 σ1 => Q (.inl (some (.int r2))) σ1) (fun E σ1 => Q (.inr E) σ1)) : EV Γ MX8_remainder d 0 [some (.ref v0), some (.int v1), some (.int v2)] [] σ Q := by
  refine EV.aload_n 1 rfl 0 rfl rfl dX8_remainder_0 ?_
  refine EV.iload_n 2 rfl 1 rfl rfl dX8_remainder_1 ?_
  refine EV.iload_n 3 rfl 2 rfl rfl dX8_remainder_2 ?_
  refine EV.bipush 5 rfl dX8_remainder_3 (v := 37) (by decide) ?_
  obtain ⟨w3, h⟩ := h
  refine EV.cV rfl rfl lk_X8_194 rfl (vs := [.int v1, .int v2, .int 37]) (st := []) rfl rfl (Nat.le_of_ble_eq_true rfl) dX8_remainder_5 w3 h (fun v σ1 h => ?_)
  obtain ⟨r2, rfl, h⟩ := h
  show EV Γ MX8_remainder d 8 [some (.ref v0), some (.int v1), some (.int v2)] [.int r2] σ1 Q
  exact EV.iret rfl dX8_remainder_8 h
theorem eX8_remainder {Γ : Gm} {d : Nat} {σ : AH} {Q : Oc → AH → Prop} {v0 : Nat} {v1 : Int32} {v2 : Int32} (h : hs σ v0 = some (6, 17) ∧ CI Γ d MX8_addOfTwo [.ref v0, .int v1, .int v2, .int 37] σ (fun r2 σ1 => Q (.inl (some (.int r2))) σ1) (fun E σ1 => Q (.inr E) σ1)) : RUN Γ d MX8_remainder [.ref v0, .int v1, .int v2] σ Q :=
  EV.enter [some (.ref v0), some (.int v1), some (.int v2)] rfl (by decide +kernel) (Nat.le_of_ble_eq_true rfl) rfl (gX8_remainder_0 h)
theorem gX8_supersets_0 {Γ : Gm} {d : Nat} {σ : AH} {Q : Oc → AH → Prop} {v0 : Nat} {v1 : Int32} {v2 : Int32} (h : hs σ v0 = some (6, 17) ∧ CI Γ d MX8_addOfTwo [.ref v0, .int v1, .int v2, .int 2] σ (fun r2 σ1 => Q (.inl (some (.int r2))) σ1) (fun E σ1 => Q (.inr E) σ1)) : EV Γ MX8_supersets d 0 [some (.ref v0), some (.int v1), some (.int v2)] [] σ Q := by
  refine EV.aload_n 1 rfl 0 rfl rfl dX8_supersets_0 ?_
  refine EV.iload_n 2 rfl 1 rfl rfl dX8_supersets_1 ?_
  refine EV.iload_n 3 rfl 2 rfl rfl dX8_supersets_2 ?_
  refine EV.iconst 4 rfl dX8_supersets_3 (v := 2) (by decide) ?_
  obtain ⟨w3, h⟩ := h
  refine EV.cV rfl rfl lk_X8_194 rfl (vs := [.int v1, .int v2, .int 2]) (st := []) rfl rfl (Nat.le_of_ble_eq_true rfl) dX8_supersets_4 w3 h (fun v σ1 h => ?_)
  obtain ⟨r2, rfl, h⟩ := h
  show EV Γ MX8_supersets d 7 [some (.ref v0), some (.int v1), some (.int v2)] [.int r2] σ1 Q
  exact EV.iret rfl dX8_supersets_7 h
theorem eX8_supersets {Γ : Gm} {d : Nat} {σ : AH} {Q : Oc → AH → Prop} {v0 : Nat} {v1 : Int32} {v2 : Int32} (h : hs σ v0 = some (6, 17) ∧ CI Γ d MX8_addOfTwo [.ref v0, .int v1, .int v2, .int 2] σ (fun r2 σ1 => Q (.inl (some (.int r2))) σ1) (fun E σ1 => Q (.inr E) σ1)) : RUN Γ d MX8_supersets [.ref v0, .int v1, .int v2] σ Q :=
  EV.enter [some (.ref v0), some (.int v1), some (.int v2)] rfl (by decide +kernel) (Nat.le_of_ble_eq_true rfl) rfl (gX8_supersets_0 h)
theorem gX8_subsets_0 {Γ : Gm} {d : Nat} {σ : AH} {Q : Oc → AH → Prop} {v0 : Nat} {v1 : Int32} {v2 : Int32} (h : hs σ v0 = some (6, 17) ∧ CI Γ d MX8_addOfTwo [.ref v0, .int v1, .int v2, .int 3] σ (fun r2 σ1 => Q (.inl (some (.int r2))) σ1) (fun E σ1 => Q (.inr E) σ1)) : EV Γ MX8_subsets d 0 [some (.ref v0), some (.int v1), some (.int v2)] [] σ Q := by
  refine EV.aload_n 1 rfl 0 rfl rfl dX8_subsets_0 ?_
  refine EV.iload_n 2 rfl 1 rfl rfl dX8_subsets_1 ?_
  refine EV.iload_n 3 rfl 2 rfl rfl dX8_subsets_2 ?_
  refine EV.iconst 4 rfl dX8_subsets_3 (v := 3) (by decide) ?_
  obtain ⟨w3, h⟩ := h
  refine EV.cV rfl rfl lk_X8_194 rfl (vs := [.int v1, .int v2, .int 3]) (st := []) rfl rfl (Nat.le_of_ble_eq_true rfl) dX8_subsets_4 w3 h (fun v σ1 h => ?_)
  obtain ⟨r2, rfl, h⟩ := h
  show EV Γ MX8_subsets d 7 [some (.ref v0), some (.int v1), some (.int v2)] [.int r2] σ1 Q
  exact EV.iret rfl dX8_subsets_7 h
theorem eX8_subsets {Γ : Gm} {d : Nat} {σ : AH} {Q : Oc → AH → Prop} {v0 : Nat} {v1 : Int32} {v2 : Int32} (h : hs σ v0 = some (6, 17) ∧ CI Γ d MX8_addOfTwo [.ref v0, .int v1, .int v2, .int 3] σ (fun r2 σ1 => Q (.inl (some (.int r2))) σ1) (fun E σ1 => Q (.inr E) σ1)) : RUN Γ d MX8_subsets [.ref v0, .int v1, .int v2] σ Q :=
  EV.enter [some (.ref v0), some (.int v1), some (.int v2)] rfl (by decide +kernel) (Nat.le_of_ble_eq_true rfl) rfl (gX8_subsets_0 h)
theorem gX8_maximal_0 {Γ : Gm} {d : Nat} {σ : AH} {Q : Oc → AH → Prop} {v0 : Nat} {v1 : Int32} (h : hs σ v0 = some (6, 17) ∧ CI Γ d MX8_addOfOne [.ref v0, .int v1, .int 4] σ (fun r2 σ1 => Q (.inl (some (.int r2))) σ1) (fun E σ1 => Q (.inr E) σ1)) : EV Γ MX8_maximal d 0 [some (.ref v0), some (.int v1)] [] σ Q := by
  refine EV.aload_n 1 rfl 0 rfl rfl dX8_maximal_0 ?_
  refine EV.iload_n 2 rfl 1 rfl rfl dX8_maximal_1 ?_
  refine EV.iconst 3 rfl dX8_maximal_2 (v := 4) (by decide) ?_
  obtain ⟨w3, h⟩ := h
  refine EV.cV rfl rfl lk_X8_198 rfl (vs := [.int v1, .int 4]) (st := []) rfl rfl (Nat.le_of_ble_eq_true rfl) dX8_maximal_3 w3 h (fun v σ1 h => ?_)
  obtain ⟨r2, rfl, h⟩ := h
  show EV Γ MX8_maximal d 6 [some (.ref v0), some (.int v1)] [.int r2] σ1 Q
  exact EV.iret rfl dX8_maximal_6 h
theorem eX8_maximal {Γ : Gm} {d : Nat} {σ : AH} {Q : Oc → AH → Prop} {v0 : Nat} {v1 : Int32} (h : hs σ v0 = some (6, 17) ∧ CI Γ d MX8_addOfOne [.ref v0, .int v1, .int 4] σ (fun r2 σ1 => Q (.inl (some (.int r2))) σ1) (fun E σ1 => Q (.inr E) σ1)) : RUN Γ d MX8_maximal [.ref v0, .int v1] σ Q :=
  EV.enter [some (.ref v0), some (.int v1)] rfl (by decide +kernel) (Nat.le_of_ble_eq_true rfl) rfl (gX8_maximal_0 h)
theorem gX8_minimal_0 {Γ : Gm} {d : Nat} {σ : AH} {Q : Oc → AH → Prop} {v0 : Nat} {v1 : Int32} (h : hs σ v0 = some (6, 17) ∧ CI Γ d MX8_addOfOne [.ref v0, .int v1, .int 5] σ (fun r2 σ1 => Q (.inl (some (.int r2))) σ1) (fun E σ1 => Q (.inr E) σ1)) : EV Γ MX8_minimal d 0 [some (.ref v0), some (.int v1)] [] σ Q := by
  refine EV.aload_n 1 rfl 0 rfl rfl dX8_minimal_0 ?_
  refine EV.iload_n 2 rfl 1 rfl rfl dX8_minimal_1 ?_
  refine EV.iconst 3 rfl dX8_minimal_2 (v := 5) (by decide) ?_
  obtain ⟨w3, h⟩ := h
  refine EV.cV rfl rfl lk_X8_198 rfl (vs := [.int v1, .int 5]) (st := []) rfl rfl (Nat.le_of_ble_eq_true rfl) dX8_minimal_3 w3 h (fun v σ1 h => ?_)
  obtain ⟨r2, rfl, h⟩ := h
  show EV Γ MX8_minimal d 6 [some (.ref v0), some (.int v1)] [.int r2] σ1 Q
  exact EV.iret rfl dX8_minimal_6 h
theorem eX8_minimal {Γ : Gm} {d : Nat} {σ : AH} {Q : Oc → AH → Prop} {v0 : Nat} {v1 : Int32} (h : hs σ v0 = some (6, 17) ∧ CI Γ d MX8_addOfOne [.ref v0, .int v1, .int 5] σ (fun r2 σ1 => Q (.inl (some (.int r2))) σ1) (fun E σ1 => Q (.inr E) σ1)) : RUN Γ d MX8_minimal [.ref v0, .int v1] σ Q :=
  EV.enter [some (.ref v0), some (.int v1)] rfl (by decide +kernel) (Nat.le_of_ble_eq_true rfl) rfl (gX8_minimal_0 h)
theorem gX8_hitting_0 {Γ : Gm} {d : Nat} {σ : AH} {Q : Oc → AH → Prop} {v0 : Nat} {v1 : Int32} (h : hs σ v0 = some (6, 17) ∧ CI Γ d MX8_addOfOne [.ref v0, .int v1, .int 6] σ (fun r2 σ1 => Q (.inl (some (.int r2))) σ1) (fun E σ1 => Q (.inr E) σ1)) : EV Γ MX8_hitting d 0 [some (.ref v0), some (.int v1)] [] σ Q := by
  refine EV.aload_n 1 rfl 0 rfl rfl dX8_hitting_0 ?_
  refine EV.iload_n 2 rfl 1 rfl rfl dX8_hitting_1 ?_
  refine EV.bipush 4 rfl dX8_hitting_2 (v := 6) (by decide) ?_
  obtain ⟨w3, h⟩ := h
  refine EV.cV rfl rfl lk_X8_198 rfl (vs := [.int v1, .int 6]) (st := []) rfl rfl (Nat.le_of_ble_eq_true rfl) dX8_hitting_4 w3 h (fun v σ1 h => ?_)
  obtain ⟨r2, rfl, h⟩ := h
  show EV Γ MX8_hitting d 7 [some (.ref v0), some (.int v1)] [.int r2] σ1 Q
  exact EV.iret rfl dX8_hitting_7 h
theorem eX8_hitting {Γ : Gm} {d : Nat} {σ : AH} {Q : Oc → AH → Prop} {v0 : Nat} {v1 : Int32} (h : hs σ v0 = some (6, 17) ∧ CI Γ d MX8_addOfOne [.ref v0, .int v1, .int 6] σ (fun r2 σ1 => Q (.inl (some (.int r2))) σ1) (fun E σ1 => Q (.inr E) σ1)) : RUN Γ d MX8_hitting [.ref v0, .int v1] σ Q :=
  EV.enter [some (.ref v0), some (.int v1)] rfl (by decide +kernel) (Nat.le_of_ble_eq_true rfl) rfl (gX8_hitting_0 h)
theorem gX8_closure_0 {Γ : Gm} {d : Nat} {σ : AH} {Q : Oc → AH → Prop} {v0 : Nat} {v1 : Int32} (h : hs σ v0 = some (6, 17) ∧ CI Γ d MX8_addOfOne [.ref v0, .int v1, .int 7] σ (fun r2 σ1 => Q (.inl (some (.int r2))) σ1) (fun E σ1 => Q (.inr E) σ1)) : EV Γ MX8_closure d 0 [some (.ref v0), some (.int v1)] [] σ Q := by
  refine EV.aload_n 1 rfl 0 rfl rfl dX8_closure_0 ?_
  refine EV.iload_n 2 rfl 1 rfl rfl dX8_closure_1 ?_
  refine EV.bipush 4 rfl dX8_closure_2 (v := 7) (by decide) ?_
  obtain ⟨w3, h⟩ := h
  refine EV.cV rfl rfl lk_X8_198 rfl (vs := [.int v1, .int 7]) (st := []) rfl rfl (Nat.le_of_ble_eq_true rfl) dX8_closure_4 w3 h (fun v σ1 h => ?_)
  obtain ⟨r2, rfl, h⟩ := h
  show EV Γ MX8_closure d 7 [some (.ref v0), some (.int v1)] [.int r2] σ1 Q
  exact EV.iret rfl dX8_closure_7 h
theorem eX8_closure {Γ : Gm} {d : Nat} {σ : AH} {Q : Oc → AH → Prop} {v0 : Nat} {v1 : Int32} (h : hs σ v0 = some (6, 17) ∧ CI Γ d MX8_addOfOne [.ref v0, .int v1, .int 7] σ (fun r2 σ1 => Q (.inl (some (.int r2))) σ1) (fun E σ1 => Q (.inr E) σ1)) : RUN Γ d MX8_closure [.ref v0, .int v1] σ Q :=
  EV.enter [some (.ref v0), some (.int v1)] rfl (by decide +kernel) (Nat.le_of_ble_eq_true rfl) rfl (gX8_closure_0 h)
theorem gX8_addOfOne_0 {Γ : Gm} {d : Nat} {σ : AH} {Q : Oc → AH → Prop} {v0 : Nat} {v1 : Int32} {v2 : Int32} (h : hs σ v0 = some (6, 17) ∧ CR Γ d MX8_familyOf [.ref v0, .int v1] σ (fun r2 σ1 => hs σ1 v0 = some (6, 17) ∧ CV Γ d MX8_checkRoom [.ref v0] σ1 (fun σ4 => hs σ4 r2 = some (4, 3) ∧ ∃ t8 : Nat, gr σ4 r2 0 = some t8 ∧ CR Γ d MJ7_copyOf_c38d5 [.ref t8, .int 64] σ4 (fun r11 σ10 => hs σ10 v0 = some (6, 17) ∧ ∃ t13 : Nat, gr σ10 v0 10 = some t13 ∧ hs σ10 t13 = some (0, 4) ∧ CV Γ d MX0_applyToOne [.ref t13, .int v2, .ref r11] σ10 (fun σ15 => hs σ15 v0 = some (6, 17) ∧ CI Γ d MX8_addFamily [.ref v0, .ref r11] σ15 (fun r19 σ18 => Q (.inl (some (.int r19))) σ18) (fun E σ18 => Q (.inr E) σ18)) (fun E σ15 => Q (.inr E) σ15)) (fun _ _ => False)) (fun E σ4 => Q (.inr E) σ4)) (fun E σ1 => Q (.inr E) σ1)) : EV Γ MX8_addOfOne d 0 [some (.ref v0), some (.int v1), some (.int v2), none, none] [] σ Q := by
  refine EV.aload_n 1 rfl 0 rfl rfl dX8_addOfOne_0 ?_
  refine EV.iload_n 2 rfl 1 rfl rfl dX8_addOfOne_1 ?_
  obtain ⟨w3, h⟩ := h
  refine EV.cV rfl rfl lk_X8_124 rfl (vs := [.int v1]) (st := []) rfl rfl (Nat.le_of_ble_eq_true rfl) dX8_addOfOne_2 w3 h (fun v σ1 h => ?_)
  obtain ⟨r2, rfl, h⟩ := h
  show EV Γ MX8_addOfOne d 5 [some (.ref v0), some (.int v1), some (.int v2), none, none] [.ref r2] σ1 Q
  refine EV.astore_n 6 rfl 3 [some (.ref v0), some (.int v1), some (.int v2), some (.ref r2), none] rfl (by decide) rfl dX8_addOfOne_5 ?_
  refine EV.aload_n 7 rfl 0 rfl rfl dX8_addOfOne_6 ?_
  obtain ⟨w6, h⟩ := h
  refine EV.cV rfl rfl lk_X8_104 rfl (vs := []) (st := []) rfl rfl (Nat.le_of_ble_eq_true rfl) dX8_addOfOne_7 w6 h (fun v σ4 h => ?_)
  obtain ⟨rfl, h⟩ := h
  show EV Γ MX8_addOfOne d 10 [some (.ref v0), some (.int v1), some (.int v2), some (.ref r2), none] [] σ4 Q
  refine EV.aload_n 11 rfl 3 rfl rfl dX8_addOfOne_10 ?_
  obtain ⟨w7, h⟩ := h
  obtain ⟨t8, g9, h⟩ := h
  refine EV.getR 14 rfl fl_X8_128 rfl dX8_addOfOne_11 w7 g9 ?_
  refine EV.bipush 16 rfl dX8_addOfOne_14 (v := 64) (by decide) ?_
  refine EV.cS rfl lk_X8_114 rfl (vs := [.ref t8, .int 64]) (st := []) rfl rfl (Nat.le_of_ble_eq_true rfl) dX8_addOfOne_16 h (fun v σ10 h => ?_)
  obtain ⟨r11, rfl, h⟩ := h
  show EV Γ MX8_addOfOne d 19 [some (.ref v0), some (.int v1), some (.int v2), some (.ref r2), none] [.ref r11] σ10 Q
  refine EV.astore 21 rfl [some (.ref v0), some (.int v1), some (.int v2), some (.ref r2), some (.ref r11)] (by decide) rfl dX8_addOfOne_19 ?_
  refine EV.aload_n 22 rfl 0 rfl rfl dX8_addOfOne_21 ?_
  obtain ⟨w12, h⟩ := h
  obtain ⟨t13, g14, h⟩ := h
  refine EV.getR 25 rfl fl_X8_50 rfl dX8_addOfOne_22 w12 g14 ?_
  refine EV.iload_n 26 rfl 2 rfl rfl dX8_addOfOne_25 ?_
  refine EV.aload 28 rfl rfl dX8_addOfOne_26 ?_
  obtain ⟨w17, h⟩ := h
  refine EV.cV rfl rfl lk_X8_201 rfl (vs := [.int v2, .ref r11]) (st := []) rfl rfl (Nat.le_of_ble_eq_true rfl) dX8_addOfOne_28 w17 h (fun v σ15 h => ?_)
  obtain ⟨rfl, h⟩ := h
  show EV Γ MX8_addOfOne d 31 [some (.ref v0), some (.int v1), some (.int v2), some (.ref r2), some (.ref r11)] [] σ15 Q
  refine EV.aload_n 32 rfl 0 rfl rfl dX8_addOfOne_31 ?_
  refine EV.aload 34 rfl rfl dX8_addOfOne_32 ?_
  obtain ⟨w20, h⟩ := h
  refine EV.cV rfl rfl lk_X8_120 rfl (vs := [.ref r11]) (st := []) rfl rfl (Nat.le_of_ble_eq_true rfl) dX8_addOfOne_34 w20 h (fun v σ18 h => ?_)
  obtain ⟨r19, rfl, h⟩ := h
  show EV Γ MX8_addOfOne d 37 [some (.ref v0), some (.int v1), some (.int v2), some (.ref r2), some (.ref r11)] [.int r19] σ18 Q
  exact EV.iret rfl dX8_addOfOne_37 h
theorem eX8_addOfOne {Γ : Gm} {d : Nat} {σ : AH} {Q : Oc → AH → Prop} {v0 : Nat} {v1 : Int32} {v2 : Int32} (h : hs σ v0 = some (6, 17) ∧ CR Γ d MX8_familyOf [.ref v0, .int v1] σ (fun r2 σ1 => hs σ1 v0 = some (6, 17) ∧ CV Γ d MX8_checkRoom [.ref v0] σ1 (fun σ4 => hs σ4 r2 = some (4, 3) ∧ ∃ t8 : Nat, gr σ4 r2 0 = some t8 ∧ CR Γ d MJ7_copyOf_c38d5 [.ref t8, .int 64] σ4 (fun r11 σ10 => hs σ10 v0 = some (6, 17) ∧ ∃ t13 : Nat, gr σ10 v0 10 = some t13 ∧ hs σ10 t13 = some (0, 4) ∧ CV Γ d MX0_applyToOne [.ref t13, .int v2, .ref r11] σ10 (fun σ15 => hs σ15 v0 = some (6, 17) ∧ CI Γ d MX8_addFamily [.ref v0, .ref r11] σ15 (fun r19 σ18 => Q (.inl (some (.int r19))) σ18) (fun E σ18 => Q (.inr E) σ18)) (fun E σ15 => Q (.inr E) σ15)) (fun _ _ => False)) (fun E σ4 => Q (.inr E) σ4)) (fun E σ1 => Q (.inr E) σ1)) : RUN Γ d MX8_addOfOne [.ref v0, .int v1, .int v2] σ Q :=
  EV.enter [some (.ref v0), some (.int v1), some (.int v2), none, none] rfl (by decide +kernel) (Nat.le_of_ble_eq_true rfl) rfl (gX8_addOfOne_0 h)
theorem gX8_addOfTwo_0 {Γ : Gm} {d : Nat} {σ : AH} {Q : Oc → AH → Prop} {v0 : Nat} {v1 : Int32} {v2 : Int32} {v3 : Int32} (h : hs σ v0 = some (6, 17) ∧ CV Γ d MX8_checkCreated [.ref v0, .int v1] σ (fun σ1 => hs σ1 v0 = some (6, 17) ∧ CV Γ d MX8_checkCreated [.ref v0, .int v2] σ1 (fun σ4 => hs σ4 v0 = some (6, 17) ∧ CR Γ d MX8_familyOf [.ref v0, .int v1] σ4 (fun r8 σ7 => hs σ7 v0 = some (6, 17) ∧ CR Γ d MX8_familyOf [.ref v0, .int v2] σ7 (fun r11 σ10 => hs σ10 v0 = some (6, 17) ∧ CV Γ d MX8_checkRoom [.ref v0] σ10 (fun σ13 => hs σ13 r11 = some (4, 3) ∧ (((gi σ13 r11 1) ≠ 0 → EV Γ MX8_addOfTwo d 56 [some (.ref v0), none, none, some (.int v3), some (.ref r8), some (.ref r11), none] [] σ13 Q) ∧ ((gi σ13 r11 1) = 0 → ((v3 = 47 → EV Γ MX8_addOfTwo d 48 [none, none, none, none, none, none, none] [] σ13 Q) ∧ (¬ v3 = 47 → ((v3 ≠ 37 → EV Γ MX8_addOfTwo d 56 [some (.ref v0), none, none, some (.int v3), some (.ref r8), some (.ref r11), none] [] σ13 Q) ∧ (v3 = 37 → EV Γ MX8_addOfTwo d 48 [none, none, none, none, none, none, none] [] σ13 Q))))))) (fun E σ13 => Q (.inr E) σ13)) (fun E σ10 => Q (.inr E) σ10)) (fun E σ7 => Q (.inr E) σ7)) (fun E σ4 => Q (.inr E) σ4)) (fun E σ1 => Q (.inr E) σ1)) : EV Γ MX8_addOfTwo d 0 [some (.ref v0), some (.int v1), some (.int v2), some (.int v3), none, none, none] [] σ Q := by
  refine EV.aload_n 1 rfl 0 rfl rfl dX8_addOfTwo_0 ?_
  refine EV.iload_n 2 rfl 1 rfl rfl dX8_addOfTwo_1 ?_
  obtain ⟨w3, h⟩ := h
  refine EV.cV rfl rfl lk_X8_179 rfl (vs := [.int v1]) (st := []) rfl rfl (Nat.le_of_ble_eq_true rfl) dX8_addOfTwo_2 w3 h (fun v σ1 h => ?_)
  obtain ⟨rfl, h⟩ := h
  show EV Γ MX8_addOfTwo d 5 [some (.ref v0), some (.int v1), some (.int v2), some (.int v3), none, none, none] [] σ1 Q
  refine EV.aload_n 6 rfl 0 rfl rfl dX8_addOfTwo_5 ?_
  refine EV.iload_n 7 rfl 2 rfl rfl dX8_addOfTwo_6 ?_
  obtain ⟨w6, h⟩ := h
  refine EV.cV rfl rfl lk_X8_179 rfl (vs := [.int v2]) (st := []) rfl rfl (Nat.le_of_ble_eq_true rfl) dX8_addOfTwo_7 w6 h (fun v σ4 h => ?_)
  obtain ⟨rfl, h⟩ := h
  show EV Γ MX8_addOfTwo d 10 [some (.ref v0), some (.int v1), some (.int v2), some (.int v3), none, none, none] [] σ4 Q
  refine EV.aload_n 11 rfl 0 rfl rfl dX8_addOfTwo_10 ?_
  refine EV.iload_n 12 rfl 1 rfl rfl dX8_addOfTwo_11 ?_
  obtain ⟨w9, h⟩ := h
  refine EV.cV rfl rfl lk_X8_124 rfl (vs := [.int v1]) (st := []) rfl rfl (Nat.le_of_ble_eq_true rfl) dX8_addOfTwo_12 w9 h (fun v σ7 h => ?_)
  obtain ⟨r8, rfl, h⟩ := h
  show EV Γ MX8_addOfTwo d 15 [some (.ref v0), some (.int v1), some (.int v2), some (.int v3), none, none, none] [.ref r8] σ7 Q
  refine EV.astore 17 rfl [some (.ref v0), some (.int v1), some (.int v2), some (.int v3), some (.ref r8), none, none] (by decide) rfl dX8_addOfTwo_15 ?_
  refine EV.aload_n 18 rfl 0 rfl rfl dX8_addOfTwo_17 ?_
  refine EV.iload_n 19 rfl 2 rfl rfl dX8_addOfTwo_18 ?_
  obtain ⟨w12, h⟩ := h
  refine EV.cV rfl rfl lk_X8_124 rfl (vs := [.int v2]) (st := []) rfl rfl (Nat.le_of_ble_eq_true rfl) dX8_addOfTwo_19 w12 h (fun v σ10 h => ?_)
  obtain ⟨r11, rfl, h⟩ := h
  show EV Γ MX8_addOfTwo d 22 [some (.ref v0), some (.int v1), some (.int v2), some (.int v3), some (.ref r8), none, none] [.ref r11] σ10 Q
  refine EV.astore 24 rfl [some (.ref v0), some (.int v1), some (.int v2), some (.int v3), some (.ref r8), some (.ref r11), none] (by decide) rfl dX8_addOfTwo_22 ?_
  refine EV.aload_n 25 rfl 0 rfl rfl dX8_addOfTwo_24 ?_
  obtain ⟨w15, h⟩ := h
  refine EV.cV rfl rfl lk_X8_104 rfl (vs := []) (st := []) rfl rfl (Nat.le_of_ble_eq_true rfl) dX8_addOfTwo_25 w15 h (fun v σ13 h => ?_)
  obtain ⟨rfl, h⟩ := h
  show EV Γ MX8_addOfTwo d 28 [some (.ref v0), some (.int v1), some (.int v2), some (.int v3), some (.ref r8), some (.ref r11), none] [] σ13 Q
  refine EV.aload 30 rfl rfl dX8_addOfTwo_28 ?_
  obtain ⟨w16, h⟩ := h
  refine EV.getI 33 rfl fl_X8_185 rfl dX8_addOfTwo_30 w16 ?_
  refine EV.if_ne 36 56 rfl (by decide) dX8_addOfTwo_33 (fun c17 => ?_) (fun c17 => ?_)
  · have h := h.1 c17
    refine EV.mask [true, false, false, true, true, true, false] (L' := [some (.ref v0), none, none, some (.int v3), some (.ref r8), some (.ref r11), none]) rfl ?_
    exact h
  · have h := h.2 c17
    refine EV.iload_n 37 rfl 3 rfl rfl dX8_addOfTwo_36 ?_
    refine EV.bipush 39 rfl dX8_addOfTwo_37 (v := 47) (by decide) ?_
    refine EV.icmp_eq 42 48 rfl (by decide) dX8_addOfTwo_39 (fun c18 => ?_) (fun c18 => ?_)
    · have h := h.1 c18
      refine EV.mask [false, false, false, false, false, false, false] (L' := [none, none, none, none, none, none, none]) rfl ?_
      exact h
    · have h := h.2 c18
      refine EV.iload_n 43 rfl 3 rfl rfl dX8_addOfTwo_42 ?_
      refine EV.bipush 45 rfl dX8_addOfTwo_43 (v := 37) (by decide) ?_
      refine EV.icmp_ne 48 56 rfl (by decide) dX8_addOfTwo_45 (fun c19 => ?_) (fun c19 => ?_)
      · have h := h.1 c19
        refine EV.mask [true, false, false, true, true, true, false] (L' := [some (.ref v0), none, none, some (.int v3), some (.ref r8), some (.ref r11), none]) rfl ?_
        exact h
      · have h := h.2 c19
        refine EV.mask [false, false, false, false, false, false, false] (L' := [none, none, none, none, none, none, none]) rfl ?_
        exact h
theorem eX8_addOfTwo {Γ : Gm} {d : Nat} {σ : AH} {Q : Oc → AH → Prop} {v0 : Nat} {v1 : Int32} {v2 : Int32} {v3 : Int32} (h : hs σ v0 = some (6, 17) ∧ CV Γ d MX8_checkCreated [.ref v0, .int v1] σ (fun σ1 => hs σ1 v0 = some (6, 17) ∧ CV Γ d MX8_checkCreated [.ref v0, .int v2] σ1 (fun σ4 => hs σ4 v0 = some (6, 17) ∧ CR Γ d MX8_familyOf [.ref v0, .int v1] σ4 (fun r8 σ7 => hs σ7 v0 = some (6, 17) ∧ CR Γ d MX8_familyOf [.ref v0, .int v2] σ7 (fun r11 σ10 => hs σ10 v0 = some (6, 17) ∧ CV Γ d MX8_checkRoom [.ref v0] σ10 (fun σ13 => hs σ13 r11 = some (4, 3) ∧ (((gi σ13 r11 1) ≠ 0 → EV Γ MX8_addOfTwo d 56 [some (.ref v0), none, none, some (.int v3), some (.ref r8), some (.ref r11), none] [] σ13 Q) ∧ ((gi σ13 r11 1) = 0 → ((v3 = 47 → EV Γ MX8_addOfTwo d 48 [none, none, none, none, none, none, none] [] σ13 Q) ∧ (¬ v3 = 47 → ((v3 ≠ 37 → EV Γ MX8_addOfTwo d 56 [some (.ref v0), none, none, some (.int v3), some (.ref r8), some (.ref r11), none] [] σ13 Q) ∧ (v3 = 37 → EV Γ MX8_addOfTwo d 48 [none, none, none, none, none, none, none] [] σ13 Q))))))) (fun E σ13 => Q (.inr E) σ13)) (fun E σ10 => Q (.inr E) σ10)) (fun E σ7 => Q (.inr E) σ7)) (fun E σ4 => Q (.inr E) σ4)) (fun E σ1 => Q (.inr E) σ1)) : RUN Γ d MX8_addOfTwo [.ref v0, .int v1, .int v2, .int v3] σ Q :=
  EV.enter [some (.ref v0), some (.int v1), some (.int v2), some (.int v3), none, none, none] rfl (by decide +kernel) (Nat.le_of_ble_eq_true rfl) rfl (gX8_addOfTwo_0 h)
theorem gX8_addOfTwo_48 {Γ : Gm} {d : Nat} {σ : AH} {Q : Oc → AH → Prop} (h : 6 ≤ d ∧ Q (.inr "java/lang/ArithmeticException") (thr σ)) : EV Γ MX8_addOfTwo d 48 [none, none, none, none, none, none, none] [] σ Q := by
  obtain ⟨z1, h⟩ := h
  exact EV.throw0 rfl th_X8_111 z1 dX8_addOfTwo_48 dX8_addOfTwo_51 dX8_addOfTwo_52 dX8_addOfTwo_55 h
theorem gX8_addOfTwo_56 {Γ : Gm} {d : Nat} {σ : AH} {Q : Oc → AH → Prop} {v0 : Nat} {v3 : Int32} {v4 : Nat} {v5 : Nat} (h : hs σ v4 = some (4, 3) ∧ ∃ t2 : Nat, gr σ v4 0 = some t2 ∧ CR Γ d MJ7_copyOf_c38d5 [.ref t2, .int 64] σ (fun r5 σ4 => hs σ4 v0 = some (6, 17) ∧ ∃ t7 : Nat, gr σ4 v0 10 = some t7 ∧ hs σ4 v5 = some (4, 3) ∧ ∃ t10 : Nat, gr σ4 v5 0 = some t10 ∧ hs σ4 t7 = some (0, 4) ∧ CV Γ d MX0_applyToTwo [.ref t7, .int v3, .ref r5, .ref t10] σ4 (fun σ12 => hs σ12 v0 = some (6, 17) ∧ CI Γ d MX8_addFamily [.ref v0, .ref r5] σ12 (fun r16 σ15 => Q (.inl (some (.int r16))) σ15) (fun E σ15 => Q (.inr E) σ15)) (fun E σ12 => Q (.inr E) σ12)) (fun _ _ => False)) : EV Γ MX8_addOfTwo d 56 [some (.ref v0), none, none, some (.int v3), some (.ref v4), some (.ref v5), none] [] σ Q := by
  refine EV.aload 58 rfl rfl dX8_addOfTwo_56 ?_
  obtain ⟨w1, h⟩ := h
  obtain ⟨t2, g3, h⟩ := h
  refine EV.getR 61 rfl fl_X8_128 rfl dX8_addOfTwo_58 w1 g3 ?_
  refine EV.bipush 63 rfl dX8_addOfTwo_61 (v := 64) (by decide) ?_
  refine EV.cS rfl lk_X8_114 rfl (vs := [.ref t2, .int 64]) (st := []) rfl rfl (Nat.le_of_ble_eq_true rfl) dX8_addOfTwo_63 h (fun v σ4 h => ?_)
  obtain ⟨r5, rfl, h⟩ := h
  show EV Γ MX8_addOfTwo d 66 [some (.ref v0), none, none, some (.int v3), some (.ref v4), some (.ref v5), none] [.ref r5] σ4 Q
  refine EV.astore 68 rfl [some (.ref v0), none, none, some (.int v3), some (.ref v4), some (.ref v5), some (.ref r5)] (by decide) rfl dX8_addOfTwo_66 ?_
  refine EV.aload_n 69 rfl 0 rfl rfl dX8_addOfTwo_68 ?_
  obtain ⟨w6, h⟩ := h
  obtain ⟨t7, g8, h⟩ := h
  refine EV.getR 72 rfl fl_X8_50 rfl dX8_addOfTwo_69 w6 g8 ?_
  refine EV.iload_n 73 rfl 3 rfl rfl dX8_addOfTwo_72 ?_
  refine EV.aload 75 rfl rfl dX8_addOfTwo_73 ?_
  refine EV.aload 77 rfl rfl dX8_addOfTwo_75 ?_
  obtain ⟨w9, h⟩ := h
  obtain ⟨t10, g11, h⟩ := h
  refine EV.getR 80 rfl fl_X8_128 rfl dX8_addOfTwo_77 w9 g11 ?_
  obtain ⟨w14, h⟩ := h
  refine EV.cV rfl rfl lk_X8_205 rfl (vs := [.int v3, .ref r5, .ref t10]) (st := []) rfl rfl (Nat.le_of_ble_eq_true rfl) dX8_addOfTwo_80 w14 h (fun v σ12 h => ?_)
  obtain ⟨rfl, h⟩ := h
  show EV Γ MX8_addOfTwo d 83 [some (.ref v0), none, none, some (.int v3), some (.ref v4), some (.ref v5), some (.ref r5)] [] σ12 Q
  refine EV.aload_n 84 rfl 0 rfl rfl dX8_addOfTwo_83 ?_
  refine EV.aload 86 rfl rfl dX8_addOfTwo_84 ?_
  obtain ⟨w17, h⟩ := h
  refine EV.cV rfl rfl lk_X8_120 rfl (vs := [.ref r5]) (st := []) rfl rfl (Nat.le_of_ble_eq_true rfl) dX8_addOfTwo_86 w17 h (fun v σ15 h => ?_)
  obtain ⟨r16, rfl, h⟩ := h
  show EV Γ MX8_addOfTwo d 89 [some (.ref v0), none, none, some (.int v3), some (.ref v4), some (.ref v5), some (.ref r5)] [.int r16] σ15 Q
  exact EV.iret rfl dX8_addOfTwo_89 h
theorem gX8_change_0 {Γ : Gm} {d : Nat} {σ : AH} {Q : Oc → AH → Prop} {v0 : Nat} {v1 : Int32} {v2 : Int32} (h : hs σ v0 = some (6, 17) ∧ CV Γ d MX8_checkCreated [.ref v0, .int v1] σ (fun σ1 => hs σ1 v0 = some (6, 17) ∧ CV Γ d MX8_checkElement [.ref v0, .int v2] σ1 (fun σ4 => hs σ4 v0 = some (6, 17) ∧ CR Γ d MX8_familyOf [.ref v0, .int v1] σ4 (fun r8 σ7 => hs σ7 v0 = some (6, 17) ∧ CV Γ d MX8_checkRoom [.ref v0] σ7 (fun σ10 => hs σ10 r8 = some (4, 3) ∧ ∃ t14 : Nat, gr σ10 r8 0 = some t14 ∧ CR Γ d MJ7_copyOf_c38d5 [.ref t14, .int 64] σ10 (fun r17 σ16 => CV Γ d MX7_swap [.ref r17, .int v2] σ16 (fun σ18 => hs σ18 v0 = some (6, 17) ∧ CI Γ d MX8_addFamily [.ref v0, .ref r17] σ18 (fun r21 σ20 => Q (.inl (some (.int r21))) σ20) (fun E σ20 => Q (.inr E) σ20)) (fun _ _ => False)) (fun _ _ => False)) (fun E σ10 => Q (.inr E) σ10)) (fun E σ7 => Q (.inr E) σ7)) (fun E σ4 => Q (.inr E) σ4)) (fun E σ1 => Q (.inr E) σ1)) : EV Γ MX8_change d 0 [some (.ref v0), some (.int v1), some (.int v2), none, none] [] σ Q := by
  refine EV.aload_n 1 rfl 0 rfl rfl dX8_change_0 ?_
  refine EV.iload_n 2 rfl 1 rfl rfl dX8_change_1 ?_
  obtain ⟨w3, h⟩ := h
  refine EV.cV rfl rfl lk_X8_179 rfl (vs := [.int v1]) (st := []) rfl rfl (Nat.le_of_ble_eq_true rfl) dX8_change_2 w3 h (fun v σ1 h => ?_)
  obtain ⟨rfl, h⟩ := h
  show EV Γ MX8_change d 5 [some (.ref v0), some (.int v1), some (.int v2), none, none] [] σ1 Q
  refine EV.aload_n 6 rfl 0 rfl rfl dX8_change_5 ?_
  refine EV.iload_n 7 rfl 2 rfl rfl dX8_change_6 ?_
  obtain ⟨w6, h⟩ := h
  refine EV.cV rfl rfl lk_X8_209 rfl (vs := [.int v2]) (st := []) rfl rfl (Nat.le_of_ble_eq_true rfl) dX8_change_7 w6 h (fun v σ4 h => ?_)
  obtain ⟨rfl, h⟩ := h
  show EV Γ MX8_change d 10 [some (.ref v0), some (.int v1), some (.int v2), none, none] [] σ4 Q
  refine EV.aload_n 11 rfl 0 rfl rfl dX8_change_10 ?_
  refine EV.iload_n 12 rfl 1 rfl rfl dX8_change_11 ?_
  obtain ⟨w9, h⟩ := h
  refine EV.cV rfl rfl lk_X8_124 rfl (vs := [.int v1]) (st := []) rfl rfl (Nat.le_of_ble_eq_true rfl) dX8_change_12 w9 h (fun v σ7 h => ?_)
  obtain ⟨r8, rfl, h⟩ := h
  show EV Γ MX8_change d 15 [some (.ref v0), some (.int v1), some (.int v2), none, none] [.ref r8] σ7 Q
  refine EV.astore_n 16 rfl 3 [some (.ref v0), some (.int v1), some (.int v2), some (.ref r8), none] rfl (by decide) rfl dX8_change_15 ?_
  refine EV.aload_n 17 rfl 0 rfl rfl dX8_change_16 ?_
  obtain ⟨w12, h⟩ := h
  refine EV.cV rfl rfl lk_X8_104 rfl (vs := []) (st := []) rfl rfl (Nat.le_of_ble_eq_true rfl) dX8_change_17 w12 h (fun v σ10 h => ?_)
  obtain ⟨rfl, h⟩ := h
  show EV Γ MX8_change d 20 [some (.ref v0), some (.int v1), some (.int v2), some (.ref r8), none] [] σ10 Q
  refine EV.aload_n 21 rfl 3 rfl rfl dX8_change_20 ?_
  obtain ⟨w13, h⟩ := h
  obtain ⟨t14, g15, h⟩ := h
  refine EV.getR 24 rfl fl_X8_128 rfl dX8_change_21 w13 g15 ?_
  refine EV.bipush 26 rfl dX8_change_24 (v := 64) (by decide) ?_
  refine EV.cS rfl lk_X8_114 rfl (vs := [.ref t14, .int 64]) (st := []) rfl rfl (Nat.le_of_ble_eq_true rfl) dX8_change_26 h (fun v σ16 h => ?_)
  obtain ⟨r17, rfl, h⟩ := h
  show EV Γ MX8_change d 29 [some (.ref v0), some (.int v1), some (.int v2), some (.ref r8), none] [.ref r17] σ16 Q
  refine EV.astore 31 rfl [some (.ref v0), some (.int v1), some (.int v2), some (.ref r8), some (.ref r17)] (by decide) rfl dX8_change_29 ?_
  refine EV.aload 33 rfl rfl dX8_change_31 ?_
  refine EV.iload_n 34 rfl 2 rfl rfl dX8_change_33 ?_
  refine EV.cS rfl lk_X8_212 rfl (vs := [.ref r17, .int v2]) (st := []) rfl rfl (Nat.le_of_ble_eq_true rfl) dX8_change_34 h (fun v σ18 h => ?_)
  obtain ⟨rfl, h⟩ := h
  show EV Γ MX8_change d 37 [some (.ref v0), some (.int v1), some (.int v2), some (.ref r8), some (.ref r17)] [] σ18 Q
  refine EV.aload_n 38 rfl 0 rfl rfl dX8_change_37 ?_
  refine EV.aload 40 rfl rfl dX8_change_38 ?_
  obtain ⟨w22, h⟩ := h
  refine EV.cV rfl rfl lk_X8_120 rfl (vs := [.ref r17]) (st := []) rfl rfl (Nat.le_of_ble_eq_true rfl) dX8_change_40 w22 h (fun v σ20 h => ?_)
  obtain ⟨r21, rfl, h⟩ := h
  show EV Γ MX8_change d 43 [some (.ref v0), some (.int v1), some (.int v2), some (.ref r8), some (.ref r17)] [.int r21] σ20 Q
  exact EV.iret rfl dX8_change_43 h
theorem eX8_change {Γ : Gm} {d : Nat} {σ : AH} {Q : Oc → AH → Prop} {v0 : Nat} {v1 : Int32} {v2 : Int32} (h : hs σ v0 = some (6, 17) ∧ CV Γ d MX8_checkCreated [.ref v0, .int v1] σ (fun σ1 => hs σ1 v0 = some (6, 17) ∧ CV Γ d MX8_checkElement [.ref v0, .int v2] σ1 (fun σ4 => hs σ4 v0 = some (6, 17) ∧ CR Γ d MX8_familyOf [.ref v0, .int v1] σ4 (fun r8 σ7 => hs σ7 v0 = some (6, 17) ∧ CV Γ d MX8_checkRoom [.ref v0] σ7 (fun σ10 => hs σ10 r8 = some (4, 3) ∧ ∃ t14 : Nat, gr σ10 r8 0 = some t14 ∧ CR Γ d MJ7_copyOf_c38d5 [.ref t14, .int 64] σ10 (fun r17 σ16 => CV Γ d MX7_swap [.ref r17, .int v2] σ16 (fun σ18 => hs σ18 v0 = some (6, 17) ∧ CI Γ d MX8_addFamily [.ref v0, .ref r17] σ18 (fun r21 σ20 => Q (.inl (some (.int r21))) σ20) (fun E σ20 => Q (.inr E) σ20)) (fun _ _ => False)) (fun _ _ => False)) (fun E σ10 => Q (.inr E) σ10)) (fun E σ7 => Q (.inr E) σ7)) (fun E σ4 => Q (.inr E) σ4)) (fun E σ1 => Q (.inr E) σ1)) : RUN Γ d MX8_change [.ref v0, .int v1, .int v2] σ Q :=
  EV.enter [some (.ref v0), some (.int v1), some (.int v2), none, none] rfl (by decide +kernel) (Nat.le_of_ble_eq_true rfl) rfl (gX8_change_0 h)
theorem gX8_withCost_0 {Γ : Gm} {d : Nat} {σ : AH} {Q : Oc → AH → Prop} {v0 : Nat} {v1 : Int32} {v2 : Int32} {v3 : Int32} (h : hs σ v0 = some (6, 17) ∧ CR Γ d MX8_familyOf [.ref v0, .int v1] σ (fun r2 σ1 => hs σ1 v0 = some (6, 17) ∧ CV Γ d MX8_checkRoom [.ref v0] σ1 (fun σ4 => hs σ4 r2 = some (4, 3) ∧ ∃ t8 : Nat, gr σ4 r2 0 = some t8 ∧ hs σ4 v0 = some (6, 17) ∧ ∃ t11 : Nat, gr σ4 v0 8 = some t11 ∧ CI Γ d MX7_list [.ref t8, .ref t11] σ4 (fun r14 σ13 => ∀ (q15 : Nat) (σ16 : AH), q15 = lo Γ + hc σ13 → σ16 = mk σ13 q15 23 64 → EV Γ MX8_withCost d 34 [some (.ref v0), none, some (.int v2), some (.int v3), none, some (.int r14), some (.ref q15), some (.int 0), none] [] σ16 Q) (fun _ _ => False)) (fun E σ4 => Q (.inr E) σ4)) (fun E σ1 => Q (.inr E) σ1)) : EV Γ MX8_withCost d 0 [some (.ref v0), some (.int v1), some (.int v2), some (.int v3), none, none, none, none, none] [] σ Q := by
  refine EV.aload_n 1 rfl 0 rfl rfl dX8_withCost_0 ?_
  refine EV.iload_n 2 rfl 1 rfl rfl dX8_withCost_1 ?_
  obtain ⟨w3, h⟩ := h
  refine EV.cV rfl rfl lk_X8_124 rfl (vs := [.int v1]) (st := []) rfl rfl (Nat.le_of_ble_eq_true rfl) dX8_withCost_2 w3 h (fun v σ1 h => ?_)
  obtain ⟨r2, rfl, h⟩ := h
  show EV Γ MX8_withCost d 5 [some (.ref v0), some (.int v1), some (.int v2), some (.int v3), none, none, none, none, none] [.ref r2] σ1 Q
  refine EV.astore 7 rfl [some (.ref v0), some (.int v1), some (.int v2), some (.int v3), some (.ref r2), none, none, none, none] (by decide) rfl dX8_withCost_5 ?_
  refine EV.aload_n 8 rfl 0 rfl rfl dX8_withCost_7 ?_
  obtain ⟨w6, h⟩ := h
  refine EV.cV rfl rfl lk_X8_104 rfl (vs := []) (st := []) rfl rfl (Nat.le_of_ble_eq_true rfl) dX8_withCost_8 w6 h (fun v σ4 h => ?_)
  obtain ⟨rfl, h⟩ := h
  show EV Γ MX8_withCost d 11 [some (.ref v0), some (.int v1), some (.int v2), some (.int v3), some (.ref r2), none, none, none, none] [] σ4 Q
  refine EV.aload 13 rfl rfl dX8_withCost_11 ?_
  obtain ⟨w7, h⟩ := h
  obtain ⟨t8, g9, h⟩ := h
  refine EV.getR 16 rfl fl_X8_128 rfl dX8_withCost_13 w7 g9 ?_
  refine EV.aload_n 17 rfl 0 rfl rfl dX8_withCost_16 ?_
  obtain ⟨w10, h⟩ := h
  obtain ⟨t11, g12, h⟩ := h
  refine EV.getR 20 rfl fl_X8_38 rfl dX8_withCost_17 w10 g12 ?_
  refine EV.cS rfl lk_X8_132 rfl (vs := [.ref t8, .ref t11]) (st := []) rfl rfl (Nat.le_of_ble_eq_true rfl) dX8_withCost_20 h (fun v σ13 h => ?_)
  obtain ⟨r14, rfl, h⟩ := h
  show EV Γ MX8_withCost d 23 [some (.ref v0), some (.int v1), some (.int v2), some (.int v3), some (.ref r2), none, none, none, none] [.int r14] σ13 Q
  refine EV.istore 25 rfl [some (.ref v0), some (.int v1), some (.int v2), some (.int v3), some (.ref r2), some (.int r14), none, none, none] (by decide) rfl dX8_withCost_23 ?_
  refine EV.bipush 27 rfl dX8_withCost_25 (v := 64) (by decide) ?_
  refine EV.newJ 29 rfl (n := 64) ac_long dX8_withCost_27 (by decide) (Nat.le_of_ble_eq_true rfl) (EV.nq (fun q15 σ16 eq15 eσ16 => ?_))
  have h := h q15 σ16 eq15 eσ16
  have w17 : hs σ16 q15 = some (23, 64) := by rw [eσ16]; exact up_same _ _ _
  refine EV.astore 31 rfl [some (.ref v0), some (.int v1), some (.int v2), some (.int v3), some (.ref r2), some (.int r14), some (.ref q15), none, none] (by decide) rfl dX8_withCost_29 ?_
  refine EV.iconst 32 rfl dX8_withCost_31 (v := 0) (by decide) ?_
  refine EV.istore 34 rfl [some (.ref v0), some (.int v1), some (.int v2), some (.int v3), some (.ref r2), some (.int r14), some (.ref q15), some (.int 0), none] (by decide) rfl dX8_withCost_32 ?_
  refine EV.mask [true, false, true, true, false, true, true, true, false] (L' := [some (.ref v0), none, some (.int v2), some (.int v3), none, some (.int r14), some (.ref q15), some (.int 0), none]) rfl ?_
  exact h
theorem eX8_withCost {Γ : Gm} {d : Nat} {σ : AH} {Q : Oc → AH → Prop} {v0 : Nat} {v1 : Int32} {v2 : Int32} {v3 : Int32} (h : hs σ v0 = some (6, 17) ∧ CR Γ d MX8_familyOf [.ref v0, .int v1] σ (fun r2 σ1 => hs σ1 v0 = some (6, 17) ∧ CV Γ d MX8_checkRoom [.ref v0] σ1 (fun σ4 => hs σ4 r2 = some (4, 3) ∧ ∃ t8 : Nat, gr σ4 r2 0 = some t8 ∧ hs σ4 v0 = some (6, 17) ∧ ∃ t11 : Nat, gr σ4 v0 8 = some t11 ∧ CI Γ d MX7_list [.ref t8, .ref t11] σ4 (fun r14 σ13 => ∀ (q15 : Nat) (σ16 : AH), q15 = lo Γ + hc σ13 → σ16 = mk σ13 q15 23 64 → EV Γ MX8_withCost d 34 [some (.ref v0), none, some (.int v2), some (.int v3), none, some (.int r14), some (.ref q15), some (.int 0), none] [] σ16 Q) (fun _ _ => False)) (fun E σ4 => Q (.inr E) σ4)) (fun E σ1 => Q (.inr E) σ1)) : RUN Γ d MX8_withCost [.ref v0, .int v1, .int v2, .int v3] σ Q :=
  EV.enter [some (.ref v0), some (.int v1), some (.int v2), some (.int v3), none, none, none, none, none] rfl (by decide +kernel) (Nat.le_of_ble_eq_true rfl) rfl (gX8_withCost_0 h)
theorem gX8_withCost_34 {Γ : Gm} {d : Nat} {σ : AH} {Q : Oc → AH → Prop} {v0 : Nat} {v2 : Int32} {v3 : Int32} {v5 : Int32} {v6 : Nat} {v7 : Int32} (h : ((v5 ≤ v7 → EV Γ MX8_withCost d 95 [some (.ref v0), none, none, none, none, none, some (.ref v6), none, none] [] σ Q) ∧ (¬ v5 ≤ v7 → ((4096 ≤ v7 → EV Γ MX8_withCost d 95 [some (.ref v0), none, none, none, none, none, some (.ref v6), none, none] [] σ Q) ∧ (¬ 4096 ≤ v7 → hs σ v0 = some (6, 17) ∧ ∃ t4 : Nat, gr σ v0 14 = some t4 ∧ ∃ t6 : Nat, gr σ v0 8 = some t6 ∧ ∃ n9 : Nat, hs σ t6 = some (22, n9) ∧ ∃ j10 : Nat, IX v7 n9 j10 ∧ hs σ t4 = some (2, 3) ∧ CI Γ d MX2_of [.ref t4, .int (gi σ t6 j10)] σ (fun r13 σ12 => ((r13 < v2 → EV Γ MX8_withCost d 34 [some (.ref v0), none, some (.int v2), some (.int v3), none, some (.int v5), some (.ref v6), some (.int (v7 + 1)), none] [] σ12 Q) ∧ (¬ r13 < v2 → ((v3 < r13 → EV Γ MX8_withCost d 34 [some (.ref v0), none, some (.int v2), some (.int v3), none, some (.int v5), some (.ref v6), some (.int (v7 + 1)), none] [] σ12 Q) ∧ (¬ v3 < r13 → hs σ12 v0 = some (6, 17) ∧ ∃ t18 : Nat, gr σ12 v0 8 = some t18 ∧ ∃ n21 : Nat, hs σ12 t18 = some (22, n21) ∧ ∃ j22 : Nat, IX v7 n21 j22 ∧ CV Γ d MX7_put [.ref v6, .int (gi σ12 t18 j22)] σ12 (fun σ24 => EV Γ MX8_withCost d 34 [some (.ref v0), none, some (.int v2), some (.int v3), none, some (.int v5), some (.ref v6), some (.int (v7 + 1)), none] [] σ24 Q) (fun _ _ => False)))))) (fun E σ12 => Q (.inr E) σ12)))))) : EV Γ MX8_withCost d 34 [some (.ref v0), none, some (.int v2), some (.int v3), none, some (.int v5), some (.ref v6), some (.int v7), none] [] σ Q := by
  refine EV.iload 36 rfl rfl dX8_withCost_34 ?_
  refine EV.iload 38 rfl rfl dX8_withCost_36 ?_
  refine EV.icmp_ge 41 95 rfl (by decide) dX8_withCost_38 (fun c1 => ?_) (fun c1 => ?_)
  · have h := h.1 c1
    refine EV.mask [true, false, false, false, false, false, true, false, false] (L' := [some (.ref v0), none, none, none, none, none, some (.ref v6), none, none]) rfl ?_
    exact h
  · have h := h.2 c1
    refine EV.iload 43 rfl rfl dX8_withCost_41 ?_
    refine EV.sipush 46 rfl dX8_withCost_43 (v := 4096) (by decide) ?_
    refine EV.icmp_ge 49 95 rfl (by decide) dX8_withCost_46 (fun c2 => ?_) (fun c2 => ?_)
    · have h := h.1 c2
      refine EV.mask [true, false, false, false, false, false, true, false, false] (L' := [some (.ref v0), none, none, none, none, none, some (.ref v6), none, none]) rfl ?_
      exact h
    · have h := h.2 c2
      refine EV.aload_n 50 rfl 0 rfl rfl dX8_withCost_49 ?_
      obtain ⟨w3, h⟩ := h
      obtain ⟨t4, g5, h⟩ := h
      refine EV.getR 53 rfl fl_X8_80 rfl dX8_withCost_50 w3 g5 ?_
      refine EV.aload_n 54 rfl 0 rfl rfl dX8_withCost_53 ?_
      obtain ⟨t6, g7, h⟩ := h
      refine EV.getR 57 rfl fl_X8_38 rfl dX8_withCost_54 w3 g7 ?_
      refine EV.iload 59 rfl rfl dX8_withCost_57 ?_
      obtain ⟨n9, w8, h⟩ := h
      obtain ⟨j10, x11, h⟩ := h
      refine EV.iald 60 rfl dX8_withCost_59 w8 x11 ?_
      obtain ⟨w14, h⟩ := h
      refine EV.cV rfl rfl lk_X8_215 rfl (vs := [.int (gi σ t6 j10)]) (st := []) rfl rfl (Nat.le_of_ble_eq_true rfl) dX8_withCost_60 w14 h (fun v σ12 h => ?_)
      obtain ⟨r13, rfl, h⟩ := h
      show EV Γ MX8_withCost d 63 [some (.ref v0), none, some (.int v2), some (.int v3), none, some (.int v5), some (.ref v6), some (.int v7), none] [.int r13] σ12 Q
      refine EV.istore 65 rfl [some (.ref v0), none, some (.int v2), some (.int v3), none, some (.int v5), some (.ref v6), some (.int v7), some (.int r13)] (by decide) rfl dX8_withCost_63 ?_
      refine EV.iload 67 rfl rfl dX8_withCost_65 ?_
      refine EV.iload_n 68 rfl 2 rfl rfl dX8_withCost_67 ?_
      refine EV.icmp_lt 71 89 rfl (by decide) dX8_withCost_68 (fun c15 => ?_) (fun c15 => ?_)
      · have h := h.1 c15
        refine EV.iinc 92 rfl [some (.ref v0), none, some (.int v2), some (.int v3), none, some (.int v5), some (.ref v6), some (.int (v7 + 1)), some (.int r13)] (v := 1) (by decide) (by decide) rfl rfl dX8_withCost_89 ?_
        refine EV.goto 34 (by decide) dX8_withCost_92 ?_
        refine EV.mask [true, false, true, true, false, true, true, true, false] (L' := [some (.ref v0), none, some (.int v2), some (.int v3), none, some (.int v5), some (.ref v6), some (.int (v7 + 1)), none]) rfl ?_
        exact h
      · have h := h.2 c15
        refine EV.iload 73 rfl rfl dX8_withCost_71 ?_
        refine EV.iload_n 74 rfl 3 rfl rfl dX8_withCost_73 ?_
        refine EV.icmp_gt 77 89 rfl (by decide) dX8_withCost_74 (fun c16 => ?_) (fun c16 => ?_)
        · have h := h.1 c16
          refine EV.iinc 92 rfl [some (.ref v0), none, some (.int v2), some (.int v3), none, some (.int v5), some (.ref v6), some (.int (v7 + 1)), some (.int r13)] (v := 1) (by decide) (by decide) rfl rfl dX8_withCost_89 ?_
          refine EV.goto 34 (by decide) dX8_withCost_92 ?_
          refine EV.mask [true, false, true, true, false, true, true, true, false] (L' := [some (.ref v0), none, some (.int v2), some (.int v3), none, some (.int v5), some (.ref v6), some (.int (v7 + 1)), none]) rfl ?_
          exact h
        · have h := h.2 c16
          refine EV.aload 79 rfl rfl dX8_withCost_77 ?_
          refine EV.aload_n 80 rfl 0 rfl rfl dX8_withCost_79 ?_
          obtain ⟨w17, h⟩ := h
          obtain ⟨t18, g19, h⟩ := h
          refine EV.getR 83 rfl fl_X8_38 rfl dX8_withCost_80 w17 g19 ?_
          refine EV.iload 85 rfl rfl dX8_withCost_83 ?_
          obtain ⟨n21, w20, h⟩ := h
          obtain ⟨j22, x23, h⟩ := h
          refine EV.iald 86 rfl dX8_withCost_85 w20 x23 ?_
          refine EV.cS rfl lk_X8_165 rfl (vs := [.ref v6, .int (gi σ12 t18 j22)]) (st := []) rfl rfl (Nat.le_of_ble_eq_true rfl) dX8_withCost_86 h (fun v σ24 h => ?_)
          obtain ⟨rfl, h⟩ := h
          show EV Γ MX8_withCost d 89 [some (.ref v0), none, some (.int v2), some (.int v3), none, some (.int v5), some (.ref v6), some (.int v7), some (.int r13)] [] σ24 Q
          refine EV.iinc 92 rfl [some (.ref v0), none, some (.int v2), some (.int v3), none, some (.int v5), some (.ref v6), some (.int (v7 + 1)), some (.int r13)] (v := 1) (by decide) (by decide) rfl rfl dX8_withCost_89 ?_
          refine EV.goto 34 (by decide) dX8_withCost_92 ?_
          refine EV.mask [true, false, true, true, false, true, true, true, false] (L' := [some (.ref v0), none, some (.int v2), some (.int v3), none, some (.int v5), some (.ref v6), some (.int (v7 + 1)), none]) rfl ?_
          exact h
theorem gX8_withCost_95 {Γ : Gm} {d : Nat} {σ : AH} {Q : Oc → AH → Prop} {v0 : Nat} {v6 : Nat} (h : hs σ v0 = some (6, 17) ∧ CI Γ d MX8_addFamily [.ref v0, .ref v6] σ (fun r2 σ1 => Q (.inl (some (.int r2))) σ1) (fun E σ1 => Q (.inr E) σ1)) : EV Γ MX8_withCost d 95 [some (.ref v0), none, none, none, none, none, some (.ref v6), none, none] [] σ Q := by
  refine EV.aload_n 96 rfl 0 rfl rfl dX8_withCost_95 ?_
  refine EV.aload 98 rfl rfl dX8_withCost_96 ?_
  obtain ⟨w3, h⟩ := h
  refine EV.cV rfl rfl lk_X8_120 rfl (vs := [.ref v6]) (st := []) rfl rfl (Nat.le_of_ble_eq_true rfl) dX8_withCost_98 w3 h (fun v σ1 h => ?_)
  obtain ⟨r2, rfl, h⟩ := h
  show EV Γ MX8_withCost d 101 [some (.ref v0), none, none, none, none, none, some (.ref v6), none, none] [.int r2] σ1 Q
  exact EV.iret rfl dX8_withCost_101 h
theorem gX8_count_0 {Γ : Gm} {d : Nat} {σ : AH} {Q : Oc → AH → Prop} {v0 : Nat} {v1 : Int32} (h : hs σ v0 = some (6, 17) ∧ CR Γ d MX8_familyOf [.ref v0, .int v1] σ (fun r2 σ1 => hs σ1 r2 = some (4, 3) ∧ Q (.inl (some (.int (gi σ1 r2 1)))) σ1) (fun E σ1 => Q (.inr E) σ1)) : EV Γ MX8_count d 0 [some (.ref v0), some (.int v1)] [] σ Q := by
  refine EV.aload_n 1 rfl 0 rfl rfl dX8_count_0 ?_
  refine EV.iload_n 2 rfl 1 rfl rfl dX8_count_1 ?_
  obtain ⟨w3, h⟩ := h
  refine EV.cV rfl rfl lk_X8_124 rfl (vs := [.int v1]) (st := []) rfl rfl (Nat.le_of_ble_eq_true rfl) dX8_count_2 w3 h (fun v σ1 h => ?_)
  obtain ⟨r2, rfl, h⟩ := h
  show EV Γ MX8_count d 5 [some (.ref v0), some (.int v1)] [.ref r2] σ1 Q
  obtain ⟨w4, h⟩ := h
  refine EV.getI 8 rfl fl_X8_185 rfl dX8_count_5 w4 ?_
  exact EV.iret rfl dX8_count_8 h
theorem eX8_count {Γ : Gm} {d : Nat} {σ : AH} {Q : Oc → AH → Prop} {v0 : Nat} {v1 : Int32} (h : hs σ v0 = some (6, 17) ∧ CR Γ d MX8_familyOf [.ref v0, .int v1] σ (fun r2 σ1 => hs σ1 r2 = some (4, 3) ∧ Q (.inl (some (.int (gi σ1 r2 1)))) σ1) (fun E σ1 => Q (.inr E) σ1)) : RUN Γ d MX8_count [.ref v0, .int v1] σ Q :=
  EV.enter [some (.ref v0), some (.int v1)] rfl (by decide +kernel) (Nat.le_of_ble_eq_true rfl) rfl (gX8_count_0 h)
theorem gX8_countOfSize_0 {Γ : Gm} {d : Nat} {σ : AH} {Q : Oc → AH → Prop} {v0 : Nat} {v1 : Int32} {v2 : Int32} (h : hs σ v0 = some (6, 17) ∧ CR Γ d MX8_familyOf [.ref v0, .int v1] σ (fun r2 σ1 => hs σ1 r2 = some (4, 3) ∧ ∃ t5 : Nat, gr σ1 r2 0 = some t5 ∧ hs σ1 v0 = some (6, 17) ∧ ∃ t8 : Nat, gr σ1 v0 8 = some t8 ∧ CI Γ d MX7_list [.ref t5, .ref t8] σ1 (fun r11 σ10 => EV Γ MX8_countOfSize d 25 [some (.ref v0), none, some (.int v2), none, some (.int r11), some (.int 0), some (.int 0)] [] σ10 Q) (fun _ _ => False)) (fun E σ1 => Q (.inr E) σ1)) : EV Γ MX8_countOfSize d 0 [some (.ref v0), some (.int v1), some (.int v2), none, none, none, none] [] σ Q := by
  refine EV.aload_n 1 rfl 0 rfl rfl dX8_countOfSize_0 ?_
  refine EV.iload_n 2 rfl 1 rfl rfl dX8_countOfSize_1 ?_
  obtain ⟨w3, h⟩ := h
  refine EV.cV rfl rfl lk_X8_124 rfl (vs := [.int v1]) (st := []) rfl rfl (Nat.le_of_ble_eq_true rfl) dX8_countOfSize_2 w3 h (fun v σ1 h => ?_)
  obtain ⟨r2, rfl, h⟩ := h
  show EV Γ MX8_countOfSize d 5 [some (.ref v0), some (.int v1), some (.int v2), none, none, none, none] [.ref r2] σ1 Q
  refine EV.astore_n 6 rfl 3 [some (.ref v0), some (.int v1), some (.int v2), some (.ref r2), none, none, none] rfl (by decide) rfl dX8_countOfSize_5 ?_
  refine EV.aload_n 7 rfl 3 rfl rfl dX8_countOfSize_6 ?_
  obtain ⟨w4, h⟩ := h
  obtain ⟨t5, g6, h⟩ := h
  refine EV.getR 10 rfl fl_X8_128 rfl dX8_countOfSize_7 w4 g6 ?_
  refine EV.aload_n 11 rfl 0 rfl rfl dX8_countOfSize_10 ?_
  obtain ⟨w7, h⟩ := h
  obtain ⟨t8, g9, h⟩ := h
  refine EV.getR 14 rfl fl_X8_38 rfl dX8_countOfSize_11 w7 g9 ?_
  refine EV.cS rfl lk_X8_132 rfl (vs := [.ref t5, .ref t8]) (st := []) rfl rfl (Nat.le_of_ble_eq_true rfl) dX8_countOfSize_14 h (fun v σ10 h => ?_)
  obtain ⟨r11, rfl, h⟩ := h
  show EV Γ MX8_countOfSize d 17 [some (.ref v0), some (.int v1), some (.int v2), some (.ref r2), none, none, none] [.int r11] σ10 Q
  refine EV.istore 19 rfl [some (.ref v0), some (.int v1), some (.int v2), some (.ref r2), some (.int r11), none, none] (by decide) rfl dX8_countOfSize_17 ?_
  refine EV.iconst 20 rfl dX8_countOfSize_19 (v := 0) (by decide) ?_
  refine EV.istore 22 rfl [some (.ref v0), some (.int v1), some (.int v2), some (.ref r2), some (.int r11), some (.int 0), none] (by decide) rfl dX8_countOfSize_20 ?_
  refine EV.iconst 23 rfl dX8_countOfSize_22 (v := 0) (by decide) ?_
  refine EV.istore 25 rfl [some (.ref v0), some (.int v1), some (.int v2), some (.ref r2), some (.int r11), some (.int 0), some (.int 0)] (by decide) rfl dX8_countOfSize_23 ?_
  refine EV.mask [true, false, true, false, true, true, true] (L' := [some (.ref v0), none, some (.int v2), none, some (.int r11), some (.int 0), some (.int 0)]) rfl ?_
  exact h
theorem eX8_countOfSize {Γ : Gm} {d : Nat} {σ : AH} {Q : Oc → AH → Prop} {v0 : Nat} {v1 : Int32} {v2 : Int32} (h : hs σ v0 = some (6, 17) ∧ CR Γ d MX8_familyOf [.ref v0, .int v1] σ (fun r2 σ1 => hs σ1 r2 = some (4, 3) ∧ ∃ t5 : Nat, gr σ1 r2 0 = some t5 ∧ hs σ1 v0 = some (6, 17) ∧ ∃ t8 : Nat, gr σ1 v0 8 = some t8 ∧ CI Γ d MX7_list [.ref t5, .ref t8] σ1 (fun r11 σ10 => EV Γ MX8_countOfSize d 25 [some (.ref v0), none, some (.int v2), none, some (.int r11), some (.int 0), some (.int 0)] [] σ10 Q) (fun _ _ => False)) (fun E σ1 => Q (.inr E) σ1)) : RUN Γ d MX8_countOfSize [.ref v0, .int v1, .int v2] σ Q :=
  EV.enter [some (.ref v0), some (.int v1), some (.int v2), none, none, none, none] rfl (by decide +kernel) (Nat.le_of_ble_eq_true rfl) rfl (gX8_countOfSize_0 h)
theorem gX8_countOfSize_25 {Γ : Gm} {d : Nat} {σ : AH} {Q : Oc → AH → Prop} {v0 : Nat} {v2 : Int32} {v4 : Int32} {v5 : Int32} {v6 : Int32} (h : ((v4 ≤ v6 → Q (.inl (some (.int v5))) σ) ∧ (¬ v4 ≤ v6 → ((4096 ≤ v6 → Q (.inl (some (.int v5))) σ) ∧ (¬ 4096 ≤ v6 → hs σ v0 = some (6, 17) ∧ ∃ t4 : Nat, gr σ v0 8 = some t4 ∧ ∃ n7 : Nat, hs σ t4 = some (22, n7) ∧ ∃ j8 : Nat, IX v6 n7 j8 ∧ CI Γ d MJ6_bitCount_0f7a4 [.int (gi σ t4 j8)] σ (fun r11 σ10 => ((r11 ≠ v2 → EV Γ MX8_countOfSize d 25 [some (.ref v0), none, some (.int v2), none, some (.int v4), some (.int v5), some (.int (v6 + 1))] [] σ10 Q) ∧ (r11 = v2 → EV Γ MX8_countOfSize d 25 [some (.ref v0), none, some (.int v2), none, some (.int v4), some (.int (v5 + 1)), some (.int (v6 + 1))] [] σ10 Q))) (fun _ _ => False)))))) : EV Γ MX8_countOfSize d 25 [some (.ref v0), none, some (.int v2), none, some (.int v4), some (.int v5), some (.int v6)] [] σ Q := by
  refine EV.iload 27 rfl rfl dX8_countOfSize_25 ?_
  refine EV.iload 29 rfl rfl dX8_countOfSize_27 ?_
  refine EV.icmp_ge 32 63 rfl (by decide) dX8_countOfSize_29 (fun c1 => ?_) (fun c1 => ?_)
  · have h := h.1 c1
    refine EV.iload 65 rfl rfl dX8_countOfSize_63 ?_
    exact EV.iret rfl dX8_countOfSize_65 h
  · have h := h.2 c1
    refine EV.iload 34 rfl rfl dX8_countOfSize_32 ?_
    refine EV.sipush 37 rfl dX8_countOfSize_34 (v := 4096) (by decide) ?_
    refine EV.icmp_ge 40 63 rfl (by decide) dX8_countOfSize_37 (fun c2 => ?_) (fun c2 => ?_)
    · have h := h.1 c2
      refine EV.iload 65 rfl rfl dX8_countOfSize_63 ?_
      exact EV.iret rfl dX8_countOfSize_65 h
    · have h := h.2 c2
      refine EV.aload_n 41 rfl 0 rfl rfl dX8_countOfSize_40 ?_
      obtain ⟨w3, h⟩ := h
      obtain ⟨t4, g5, h⟩ := h
      refine EV.getR 44 rfl fl_X8_38 rfl dX8_countOfSize_41 w3 g5 ?_
      refine EV.iload 46 rfl rfl dX8_countOfSize_44 ?_
      obtain ⟨n7, w6, h⟩ := h
      obtain ⟨j8, x9, h⟩ := h
      refine EV.iald 47 rfl dX8_countOfSize_46 w6 x9 ?_
      refine EV.cS rfl lk_X8_148 rfl (vs := [.int (gi σ t4 j8)]) (st := []) rfl rfl (Nat.le_of_ble_eq_true rfl) dX8_countOfSize_47 h (fun v σ10 h => ?_)
      obtain ⟨r11, rfl, h⟩ := h
      show EV Γ MX8_countOfSize d 50 [some (.ref v0), none, some (.int v2), none, some (.int v4), some (.int v5), some (.int v6)] [.int r11] σ10 Q
      refine EV.iload_n 51 rfl 2 rfl rfl dX8_countOfSize_50 ?_
      refine EV.icmp_ne 54 57 rfl (by decide) dX8_countOfSize_51 (fun c12 => ?_) (fun c12 => ?_)
      · have h := h.1 c12
        refine EV.iinc 60 rfl [some (.ref v0), none, some (.int v2), none, some (.int v4), some (.int v5), some (.int (v6 + 1))] (v := 1) (by decide) (by decide) rfl rfl dX8_countOfSize_57 ?_
        refine EV.goto 25 (by decide) dX8_countOfSize_60 ?_
        exact h
      · have h := h.2 c12
        refine EV.iinc 57 rfl [some (.ref v0), none, some (.int v2), none, some (.int v4), some (.int (v5 + 1)), some (.int v6)] (v := 1) (by decide) (by decide) rfl rfl dX8_countOfSize_54 ?_
        refine EV.iinc 60 rfl [some (.ref v0), none, some (.int v2), none, some (.int v4), some (.int (v5 + 1)), some (.int (v6 + 1))] (v := 1) (by decide) (by decide) rfl rfl dX8_countOfSize_57 ?_
        refine EV.goto 25 (by decide) dX8_countOfSize_60 ?_
        exact h
theorem gX8_countWith_0 {Γ : Gm} {d : Nat} {σ : AH} {Q : Oc → AH → Prop} {v0 : Nat} {v1 : Int32} {v2 : Int32} (h : hs σ v0 = some (6, 17) ∧ CV Γ d MX8_checkCreated [.ref v0, .int v1] σ (fun σ1 => hs σ1 v0 = some (6, 17) ∧ CV Γ d MX8_checkElement [.ref v0, .int v2] σ1 (fun σ4 => hs σ4 v0 = some (6, 17) ∧ CR Γ d MX8_familyOf [.ref v0, .int v1] σ4 (fun r8 σ7 => hs σ7 r8 = some (4, 3) ∧ ∃ t11 : Nat, gr σ7 r8 0 = some t11 ∧ hs σ7 v0 = some (6, 17) ∧ ∃ t14 : Nat, gr σ7 v0 8 = some t14 ∧ CI Γ d MX7_list [.ref t11, .ref t14] σ7 (fun r17 σ16 => EV Γ MX8_countWith d 35 [some (.ref v0), none, some (.int v2), none, some (.int r17), some (.int 0), some (.int 0)] [] σ16 Q) (fun _ _ => False)) (fun E σ7 => Q (.inr E) σ7)) (fun E σ4 => Q (.inr E) σ4)) (fun E σ1 => Q (.inr E) σ1)) : EV Γ MX8_countWith d 0 [some (.ref v0), some (.int v1), some (.int v2), none, none, none, none] [] σ Q := by
  refine EV.aload_n 1 rfl 0 rfl rfl dX8_countWith_0 ?_
  refine EV.iload_n 2 rfl 1 rfl rfl dX8_countWith_1 ?_
  obtain ⟨w3, h⟩ := h
  refine EV.cV rfl rfl lk_X8_179 rfl (vs := [.int v1]) (st := []) rfl rfl (Nat.le_of_ble_eq_true rfl) dX8_countWith_2 w3 h (fun v σ1 h => ?_)
  obtain ⟨rfl, h⟩ := h
  show EV Γ MX8_countWith d 5 [some (.ref v0), some (.int v1), some (.int v2), none, none, none, none] [] σ1 Q
  refine EV.aload_n 6 rfl 0 rfl rfl dX8_countWith_5 ?_
  refine EV.iload_n 7 rfl 2 rfl rfl dX8_countWith_6 ?_
  obtain ⟨w6, h⟩ := h
  refine EV.cV rfl rfl lk_X8_209 rfl (vs := [.int v2]) (st := []) rfl rfl (Nat.le_of_ble_eq_true rfl) dX8_countWith_7 w6 h (fun v σ4 h => ?_)
  obtain ⟨rfl, h⟩ := h
  show EV Γ MX8_countWith d 10 [some (.ref v0), some (.int v1), some (.int v2), none, none, none, none] [] σ4 Q
  refine EV.aload_n 11 rfl 0 rfl rfl dX8_countWith_10 ?_
  refine EV.iload_n 12 rfl 1 rfl rfl dX8_countWith_11 ?_
  obtain ⟨w9, h⟩ := h
  refine EV.cV rfl rfl lk_X8_124 rfl (vs := [.int v1]) (st := []) rfl rfl (Nat.le_of_ble_eq_true rfl) dX8_countWith_12 w9 h (fun v σ7 h => ?_)
  obtain ⟨r8, rfl, h⟩ := h
  show EV Γ MX8_countWith d 15 [some (.ref v0), some (.int v1), some (.int v2), none, none, none, none] [.ref r8] σ7 Q
  refine EV.astore_n 16 rfl 3 [some (.ref v0), some (.int v1), some (.int v2), some (.ref r8), none, none, none] rfl (by decide) rfl dX8_countWith_15 ?_
  refine EV.aload_n 17 rfl 3 rfl rfl dX8_countWith_16 ?_
  obtain ⟨w10, h⟩ := h
  obtain ⟨t11, g12, h⟩ := h
  refine EV.getR 20 rfl fl_X8_128 rfl dX8_countWith_17 w10 g12 ?_
  refine EV.aload_n 21 rfl 0 rfl rfl dX8_countWith_20 ?_
  obtain ⟨w13, h⟩ := h
  obtain ⟨t14, g15, h⟩ := h
  refine EV.getR 24 rfl fl_X8_38 rfl dX8_countWith_21 w13 g15 ?_
  refine EV.cS rfl lk_X8_132 rfl (vs := [.ref t11, .ref t14]) (st := []) rfl rfl (Nat.le_of_ble_eq_true rfl) dX8_countWith_24 h (fun v σ16 h => ?_)
  obtain ⟨r17, rfl, h⟩ := h
  show EV Γ MX8_countWith d 27 [some (.ref v0), some (.int v1), some (.int v2), some (.ref r8), none, none, none] [.int r17] σ16 Q
  refine EV.istore 29 rfl [some (.ref v0), some (.int v1), some (.int v2), some (.ref r8), some (.int r17), none, none] (by decide) rfl dX8_countWith_27 ?_
  refine EV.iconst 30 rfl dX8_countWith_29 (v := 0) (by decide) ?_
  refine EV.istore 32 rfl [some (.ref v0), some (.int v1), some (.int v2), some (.ref r8), some (.int r17), some (.int 0), none] (by decide) rfl dX8_countWith_30 ?_
  refine EV.iconst 33 rfl dX8_countWith_32 (v := 0) (by decide) ?_
  refine EV.istore 35 rfl [some (.ref v0), some (.int v1), some (.int v2), some (.ref r8), some (.int r17), some (.int 0), some (.int 0)] (by decide) rfl dX8_countWith_33 ?_
  refine EV.mask [true, false, true, false, true, true, true] (L' := [some (.ref v0), none, some (.int v2), none, some (.int r17), some (.int 0), some (.int 0)]) rfl ?_
  exact h
theorem eX8_countWith {Γ : Gm} {d : Nat} {σ : AH} {Q : Oc → AH → Prop} {v0 : Nat} {v1 : Int32} {v2 : Int32} (h : hs σ v0 = some (6, 17) ∧ CV Γ d MX8_checkCreated [.ref v0, .int v1] σ (fun σ1 => hs σ1 v0 = some (6, 17) ∧ CV Γ d MX8_checkElement [.ref v0, .int v2] σ1 (fun σ4 => hs σ4 v0 = some (6, 17) ∧ CR Γ d MX8_familyOf [.ref v0, .int v1] σ4 (fun r8 σ7 => hs σ7 r8 = some (4, 3) ∧ ∃ t11 : Nat, gr σ7 r8 0 = some t11 ∧ hs σ7 v0 = some (6, 17) ∧ ∃ t14 : Nat, gr σ7 v0 8 = some t14 ∧ CI Γ d MX7_list [.ref t11, .ref t14] σ7 (fun r17 σ16 => EV Γ MX8_countWith d 35 [some (.ref v0), none, some (.int v2), none, some (.int r17), some (.int 0), some (.int 0)] [] σ16 Q) (fun _ _ => False)) (fun E σ7 => Q (.inr E) σ7)) (fun E σ4 => Q (.inr E) σ4)) (fun E σ1 => Q (.inr E) σ1)) : RUN Γ d MX8_countWith [.ref v0, .int v1, .int v2] σ Q :=
  EV.enter [some (.ref v0), some (.int v1), some (.int v2), none, none, none, none] rfl (by decide +kernel) (Nat.le_of_ble_eq_true rfl) rfl (gX8_countWith_0 h)
theorem gX8_countWith_35 {Γ : Gm} {d : Nat} {σ : AH} {Q : Oc → AH → Prop} {v0 : Nat} {v2 : Int32} {v4 : Int32} {v5 : Int32} {v6 : Int32} (h : ((v4 ≤ v6 → Q (.inl (some (.int v5))) σ) ∧ (¬ v4 ≤ v6 → ((4096 ≤ v6 → Q (.inl (some (.int v5))) σ) ∧ (¬ 4096 ≤ v6 → hs σ v0 = some (6, 17) ∧ ∃ t4 : Nat, gr σ v0 8 = some t4 ∧ ∃ n7 : Nat, hs σ t4 = some (22, n7) ∧ ∃ j8 : Nat, IX v6 n7 j8 ∧ EV Γ MX8_countWith d 35 [some (.ref v0), none, some (.int v2), none, some (.int v4), some (.int (v5 + (((gi σ t4 j8) >>> (v2 &&& 31)) &&& 1))), some (.int (v6 + 1))] [] σ Q))))) : EV Γ MX8_countWith d 35 [some (.ref v0), none, some (.int v2), none, some (.int v4), some (.int v5), some (.int v6)] [] σ Q := by
  refine EV.iload 37 rfl rfl dX8_countWith_35 ?_
  refine EV.iload 39 rfl rfl dX8_countWith_37 ?_
  refine EV.icmp_ge 42 72 rfl (by decide) dX8_countWith_39 (fun c1 => ?_) (fun c1 => ?_)
  · have h := h.1 c1
    refine EV.iload 74 rfl rfl dX8_countWith_72 ?_
    exact EV.iret rfl dX8_countWith_74 h
  · have h := h.2 c1
    refine EV.iload 44 rfl rfl dX8_countWith_42 ?_
    refine EV.sipush 47 rfl dX8_countWith_44 (v := 4096) (by decide) ?_
    refine EV.icmp_ge 50 72 rfl (by decide) dX8_countWith_47 (fun c2 => ?_) (fun c2 => ?_)
    · have h := h.1 c2
      refine EV.iload 74 rfl rfl dX8_countWith_72 ?_
      exact EV.iret rfl dX8_countWith_74 h
    · have h := h.2 c2
      refine EV.iload 52 rfl rfl dX8_countWith_50 ?_
      refine EV.aload_n 53 rfl 0 rfl rfl dX8_countWith_52 ?_
      obtain ⟨w3, h⟩ := h
      obtain ⟨t4, g5, h⟩ := h
      refine EV.getR 56 rfl fl_X8_38 rfl dX8_countWith_53 w3 g5 ?_
      refine EV.iload 58 rfl rfl dX8_countWith_56 ?_
      obtain ⟨n7, w6, h⟩ := h
      obtain ⟨j8, x9, h⟩ := h
      refine EV.iald 59 rfl dX8_countWith_58 w6 x9 ?_
      refine EV.iload_n 60 rfl 2 rfl rfl dX8_countWith_59 ?_
      refine EV.ishr 61 rfl dX8_countWith_60 ?_
      refine EV.iconst 62 rfl dX8_countWith_61 (v := 1) (by decide) ?_
      refine EV.iand 63 rfl dX8_countWith_62 ?_
      refine EV.iadd 64 rfl dX8_countWith_63 ?_
      refine EV.istore 66 rfl [some (.ref v0), none, some (.int v2), none, some (.int v4), some (.int (v5 + (((gi σ t4 j8) >>> (v2 &&& 31)) &&& 1))), some (.int v6)] (by decide) rfl dX8_countWith_64 ?_
      refine EV.iinc 69 rfl [some (.ref v0), none, some (.int v2), none, some (.int v4), some (.int (v5 + (((gi σ t4 j8) >>> (v2 &&& 31)) &&& 1))), some (.int (v6 + 1))] (v := 1) (by decide) (by decide) rfl rfl dX8_countWith_66 ?_
      refine EV.goto 35 (by decide) dX8_countWith_69 ?_
      exact h
theorem gX8_contains_0 {Γ : Gm} {d : Nat} {σ : AH} {Q : Oc → AH → Prop} {v0 : Nat} {v1 : Int32} {v2 : Int32} (h : hs σ v0 = some (6, 17) ∧ CR Γ d MX8_familyOf [.ref v0, .int v1] σ (fun r2 σ1 => hs σ1 r2 = some (4, 3) ∧ ∃ t5 : Nat, gr σ1 r2 0 = some t5 ∧ CI Γ d MX7_has [.ref t5, .int v2] σ1 (fun r8 σ7 => (narrow .boolean (.int r8) = .int r8 ∧ Q (.inl (some (.int r8))) σ7)) (fun _ _ => False)) (fun E σ1 => Q (.inr E) σ1)) : EV Γ MX8_contains d 0 [some (.ref v0), some (.int v1), some (.int v2)] [] σ Q := by
  refine EV.aload_n 1 rfl 0 rfl rfl dX8_contains_0 ?_
  refine EV.iload_n 2 rfl 1 rfl rfl dX8_contains_1 ?_
  obtain ⟨w3, h⟩ := h
  refine EV.cV rfl rfl lk_X8_124 rfl (vs := [.int v1]) (st := []) rfl rfl (Nat.le_of_ble_eq_true rfl) dX8_contains_2 w3 h (fun v σ1 h => ?_)
  obtain ⟨r2, rfl, h⟩ := h
  show EV Γ MX8_contains d 5 [some (.ref v0), some (.int v1), some (.int v2)] [.ref r2] σ1 Q
  obtain ⟨w4, h⟩ := h
  obtain ⟨t5, g6, h⟩ := h
  refine EV.getR 8 rfl fl_X8_128 rfl dX8_contains_5 w4 g6 ?_
  refine EV.iload_n 9 rfl 2 rfl rfl dX8_contains_8 ?_
  refine EV.cS rfl lk_X8_218 rfl (vs := [.ref t5, .int v2]) (st := []) rfl rfl (Nat.le_of_ble_eq_true rfl) dX8_contains_9 h (fun v σ7 h => ?_)
  obtain ⟨r8, rfl, h⟩ := h
  show EV Γ MX8_contains d 12 [some (.ref v0), some (.int v1), some (.int v2)] [.int r8] σ7 Q
  exact EV.zret rfl h.1 dX8_contains_12 h.2
theorem eX8_contains {Γ : Gm} {d : Nat} {σ : AH} {Q : Oc → AH → Prop} {v0 : Nat} {v1 : Int32} {v2 : Int32} (h : hs σ v0 = some (6, 17) ∧ CR Γ d MX8_familyOf [.ref v0, .int v1] σ (fun r2 σ1 => hs σ1 r2 = some (4, 3) ∧ ∃ t5 : Nat, gr σ1 r2 0 = some t5 ∧ CI Γ d MX7_has [.ref t5, .int v2] σ1 (fun r8 σ7 => (narrow .boolean (.int r8) = .int r8 ∧ Q (.inl (some (.int r8))) σ7)) (fun _ _ => False)) (fun E σ1 => Q (.inr E) σ1)) : RUN Γ d MX8_contains [.ref v0, .int v1, .int v2] σ Q :=
  EV.enter [some (.ref v0), some (.int v1), some (.int v2)] rfl (by decide +kernel) (Nat.le_of_ble_eq_true rfl) rfl (gX8_contains_0 h)
theorem gX8_areEqual_0 {Γ : Gm} {d : Nat} {σ : AH} {Q : Oc → AH → Prop} {v0 : Nat} {v1 : Int32} {v2 : Int32} (h : hs σ v0 = some (6, 17) ∧ CV Γ d MX8_checkCreated [.ref v0, .int v1] σ (fun σ1 => hs σ1 v0 = some (6, 17) ∧ CV Γ d MX8_checkCreated [.ref v0, .int v2] σ1 (fun σ4 => hs σ4 v0 = some (6, 17) ∧ CR Γ d MX8_familyOf [.ref v0, .int v1] σ4 (fun r8 σ7 => hs σ7 v0 = some (6, 17) ∧ CR Γ d MX8_familyOf [.ref v0, .int v2] σ7 (fun r11 σ10 => hs σ10 r8 = some (4, 3) ∧ hs σ10 r11 = some (4, 3) ∧ (((gi σ10 r8 1) ≠ (gi σ10 r11 1) → Q (.inl (some (.int 0))) σ10) ∧ ((gi σ10 r8 1) = (gi σ10 r11 1) → ∃ t16 : Nat, gr σ10 r8 0 = some t16 ∧ ∃ t18 : Nat, gr σ10 r11 0 = some t18 ∧ CI Γ d MX7_isInside [.ref t16, .ref t18] σ10 (fun r21 σ20 => ((r21 = 0 → Q (.inl (some (.int 0))) σ20) ∧ (¬ r21 = 0 → Q (.inl (some (.int 1))) σ20))) (fun _ _ => False)))) (fun E σ10 => Q (.inr E) σ10)) (fun E σ7 => Q (.inr E) σ7)) (fun E σ4 => Q (.inr E) σ4)) (fun E σ1 => Q (.inr E) σ1)) : EV Γ MX8_areEqual d 0 [some (.ref v0), some (.int v1), some (.int v2), none, none] [] σ Q := by
  refine EV.aload_n 1 rfl 0 rfl rfl dX8_areEqual_0 ?_
  refine EV.iload_n 2 rfl 1 rfl rfl dX8_areEqual_1 ?_
  obtain ⟨w3, h⟩ := h
  refine EV.cV rfl rfl lk_X8_179 rfl (vs := [.int v1]) (st := []) rfl rfl (Nat.le_of_ble_eq_true rfl) dX8_areEqual_2 w3 h (fun v σ1 h => ?_)
  obtain ⟨rfl, h⟩ := h
  show EV Γ MX8_areEqual d 5 [some (.ref v0), some (.int v1), some (.int v2), none, none] [] σ1 Q
  refine EV.aload_n 6 rfl 0 rfl rfl dX8_areEqual_5 ?_
  refine EV.iload_n 7 rfl 2 rfl rfl dX8_areEqual_6 ?_
  obtain ⟨w6, h⟩ := h
  refine EV.cV rfl rfl lk_X8_179 rfl (vs := [.int v2]) (st := []) rfl rfl (Nat.le_of_ble_eq_true rfl) dX8_areEqual_7 w6 h (fun v σ4 h => ?_)
  obtain ⟨rfl, h⟩ := h
  show EV Γ MX8_areEqual d 10 [some (.ref v0), some (.int v1), some (.int v2), none, none] [] σ4 Q
  refine EV.aload_n 11 rfl 0 rfl rfl dX8_areEqual_10 ?_
  refine EV.iload_n 12 rfl 1 rfl rfl dX8_areEqual_11 ?_
  obtain ⟨w9, h⟩ := h
  refine EV.cV rfl rfl lk_X8_124 rfl (vs := [.int v1]) (st := []) rfl rfl (Nat.le_of_ble_eq_true rfl) dX8_areEqual_12 w9 h (fun v σ7 h => ?_)
  obtain ⟨r8, rfl, h⟩ := h
  show EV Γ MX8_areEqual d 15 [some (.ref v0), some (.int v1), some (.int v2), none, none] [.ref r8] σ7 Q
  refine EV.astore_n 16 rfl 3 [some (.ref v0), some (.int v1), some (.int v2), some (.ref r8), none] rfl (by decide) rfl dX8_areEqual_15 ?_
  refine EV.aload_n 17 rfl 0 rfl rfl dX8_areEqual_16 ?_
  refine EV.iload_n 18 rfl 2 rfl rfl dX8_areEqual_17 ?_
  obtain ⟨w12, h⟩ := h
  refine EV.cV rfl rfl lk_X8_124 rfl (vs := [.int v2]) (st := []) rfl rfl (Nat.le_of_ble_eq_true rfl) dX8_areEqual_18 w12 h (fun v σ10 h => ?_)
  obtain ⟨r11, rfl, h⟩ := h
  show EV Γ MX8_areEqual d 21 [some (.ref v0), some (.int v1), some (.int v2), some (.ref r8), none] [.ref r11] σ10 Q
  refine EV.astore 23 rfl [some (.ref v0), some (.int v1), some (.int v2), some (.ref r8), some (.ref r11)] (by decide) rfl dX8_areEqual_21 ?_
  refine EV.aload_n 24 rfl 3 rfl rfl dX8_areEqual_23 ?_
  obtain ⟨w13, h⟩ := h
  refine EV.getI 27 rfl fl_X8_185 rfl dX8_areEqual_24 w13 ?_
  refine EV.aload 29 rfl rfl dX8_areEqual_27 ?_
  obtain ⟨w14, h⟩ := h
  refine EV.getI 32 rfl fl_X8_185 rfl dX8_areEqual_29 w14 ?_
  refine EV.icmp_ne 35 54 rfl (by decide) dX8_areEqual_32 (fun c15 => ?_) (fun c15 => ?_)
  · have h := h.1 c15
    refine EV.iconst 55 rfl dX8_areEqual_54 (v := 0) (by decide) ?_
    exact EV.zret rfl rfl dX8_areEqual_55 h
  · have h := h.2 c15
    refine EV.aload_n 36 rfl 3 rfl rfl dX8_areEqual_35 ?_
    obtain ⟨t16, g17, h⟩ := h
    refine EV.getR 39 rfl fl_X8_128 rfl dX8_areEqual_36 w13 g17 ?_
    refine EV.aload 41 rfl rfl dX8_areEqual_39 ?_
    obtain ⟨t18, g19, h⟩ := h
    refine EV.getR 44 rfl fl_X8_128 rfl dX8_areEqual_41 w14 g19 ?_
    refine EV.cS rfl lk_X8_222 rfl (vs := [.ref t16, .ref t18]) (st := []) rfl rfl (Nat.le_of_ble_eq_true rfl) dX8_areEqual_44 h (fun v σ20 h => ?_)
    obtain ⟨r21, rfl, h⟩ := h
    show EV Γ MX8_areEqual d 47 [some (.ref v0), some (.int v1), some (.int v2), some (.ref r8), some (.ref r11)] [.int r21] σ20 Q
    refine EV.if_eq 50 54 rfl (by decide) dX8_areEqual_47 (fun c22 => ?_) (fun c22 => ?_)
    · have h := h.1 c22
      refine EV.iconst 55 rfl dX8_areEqual_54 (v := 0) (by decide) ?_
      exact EV.zret rfl rfl dX8_areEqual_55 h
    · have h := h.2 c22
      refine EV.iconst 51 rfl dX8_areEqual_50 (v := 1) (by decide) ?_
      refine EV.goto 55 (by decide) dX8_areEqual_51 ?_
      exact EV.zret rfl rfl dX8_areEqual_55 h
theorem eX8_areEqual {Γ : Gm} {d : Nat} {σ : AH} {Q : Oc → AH → Prop} {v0 : Nat} {v1 : Int32} {v2 : Int32} (h : hs σ v0 = some (6, 17) ∧ CV Γ d MX8_checkCreated [.ref v0, .int v1] σ (fun σ1 => hs σ1 v0 = some (6, 17) ∧ CV Γ d MX8_checkCreated [.ref v0, .int v2] σ1 (fun σ4 => hs σ4 v0 = some (6, 17) ∧ CR Γ d MX8_familyOf [.ref v0, .int v1] σ4 (fun r8 σ7 => hs σ7 v0 = some (6, 17) ∧ CR Γ d MX8_familyOf [.ref v0, .int v2] σ7 (fun r11 σ10 => hs σ10 r8 = some (4, 3) ∧ hs σ10 r11 = some (4, 3) ∧ (((gi σ10 r8 1) ≠ (gi σ10 r11 1) → Q (.inl (some (.int 0))) σ10) ∧ ((gi σ10 r8 1) = (gi σ10 r11 1) → ∃ t16 : Nat, gr σ10 r8 0 = some t16 ∧ ∃ t18 : Nat, gr σ10 r11 0 = some t18 ∧ CI Γ d MX7_isInside [.ref t16, .ref t18] σ10 (fun r21 σ20 => ((r21 = 0 → Q (.inl (some (.int 0))) σ20) ∧ (¬ r21 = 0 → Q (.inl (some (.int 1))) σ20))) (fun _ _ => False)))) (fun E σ10 => Q (.inr E) σ10)) (fun E σ7 => Q (.inr E) σ7)) (fun E σ4 => Q (.inr E) σ4)) (fun E σ1 => Q (.inr E) σ1)) : RUN Γ d MX8_areEqual [.ref v0, .int v1, .int v2] σ Q :=
  EV.enter [some (.ref v0), some (.int v1), some (.int v2), none, none] rfl (by decide +kernel) (Nat.le_of_ble_eq_true rfl) rfl (gX8_areEqual_0 h)
theorem gX8_isPartOf_0 {Γ : Gm} {d : Nat} {σ : AH} {Q : Oc → AH → Prop} {v0 : Nat} {v1 : Int32} {v2 : Int32} (h : hs σ v0 = some (6, 17) ∧ CV Γ d MX8_checkCreated [.ref v0, .int v1] σ (fun σ1 => hs σ1 v0 = some (6, 17) ∧ CV Γ d MX8_checkCreated [.ref v0, .int v2] σ1 (fun σ4 => hs σ4 v0 = some (6, 17) ∧ CR Γ d MX8_familyOf [.ref v0, .int v1] σ4 (fun r8 σ7 => hs σ7 v0 = some (6, 17) ∧ CR Γ d MX8_familyOf [.ref v0, .int v2] σ7 (fun r11 σ10 => hs σ10 r8 = some (4, 3) ∧ ∃ t14 : Nat, gr σ10 r8 0 = some t14 ∧ hs σ10 r11 = some (4, 3) ∧ ∃ t17 : Nat, gr σ10 r11 0 = some t17 ∧ CI Γ d MX7_isInside [.ref t14, .ref t17] σ10 (fun r20 σ19 => (narrow .boolean (.int r20) = .int r20 ∧ Q (.inl (some (.int r20))) σ19)) (fun _ _ => False)) (fun E σ10 => Q (.inr E) σ10)) (fun E σ7 => Q (.inr E) σ7)) (fun E σ4 => Q (.inr E) σ4)) (fun E σ1 => Q (.inr E) σ1)) : EV Γ MX8_isPartOf d 0 [some (.ref v0), some (.int v1), some (.int v2), none, none] [] σ Q := by
  refine EV.aload_n 1 rfl 0 rfl rfl dX8_isPartOf_0 ?_
  refine EV.iload_n 2 rfl 1 rfl rfl dX8_isPartOf_1 ?_
  obtain ⟨w3, h⟩ := h
  refine EV.cV rfl rfl lk_X8_179 rfl (vs := [.int v1]) (st := []) rfl rfl (Nat.le_of_ble_eq_true rfl) dX8_isPartOf_2 w3 h (fun v σ1 h => ?_)
  obtain ⟨rfl, h⟩ := h
  show EV Γ MX8_isPartOf d 5 [some (.ref v0), some (.int v1), some (.int v2), none, none] [] σ1 Q
  refine EV.aload_n 6 rfl 0 rfl rfl dX8_isPartOf_5 ?_
  refine EV.iload_n 7 rfl 2 rfl rfl dX8_isPartOf_6 ?_
  obtain ⟨w6, h⟩ := h
  refine EV.cV rfl rfl lk_X8_179 rfl (vs := [.int v2]) (st := []) rfl rfl (Nat.le_of_ble_eq_true rfl) dX8_isPartOf_7 w6 h (fun v σ4 h => ?_)
  obtain ⟨rfl, h⟩ := h
  show EV Γ MX8_isPartOf d 10 [some (.ref v0), some (.int v1), some (.int v2), none, none] [] σ4 Q
  refine EV.aload_n 11 rfl 0 rfl rfl dX8_isPartOf_10 ?_
  refine EV.iload_n 12 rfl 1 rfl rfl dX8_isPartOf_11 ?_
  obtain ⟨w9, h⟩ := h
  refine EV.cV rfl rfl lk_X8_124 rfl (vs := [.int v1]) (st := []) rfl rfl (Nat.le_of_ble_eq_true rfl) dX8_isPartOf_12 w9 h (fun v σ7 h => ?_)
  obtain ⟨r8, rfl, h⟩ := h
  show EV Γ MX8_isPartOf d 15 [some (.ref v0), some (.int v1), some (.int v2), none, none] [.ref r8] σ7 Q
  refine EV.astore_n 16 rfl 3 [some (.ref v0), some (.int v1), some (.int v2), some (.ref r8), none] rfl (by decide) rfl dX8_isPartOf_15 ?_
  refine EV.aload_n 17 rfl 0 rfl rfl dX8_isPartOf_16 ?_
  refine EV.iload_n 18 rfl 2 rfl rfl dX8_isPartOf_17 ?_
  obtain ⟨w12, h⟩ := h
  refine EV.cV rfl rfl lk_X8_124 rfl (vs := [.int v2]) (st := []) rfl rfl (Nat.le_of_ble_eq_true rfl) dX8_isPartOf_18 w12 h (fun v σ10 h => ?_)
  obtain ⟨r11, rfl, h⟩ := h
  show EV Γ MX8_isPartOf d 21 [some (.ref v0), some (.int v1), some (.int v2), some (.ref r8), none] [.ref r11] σ10 Q
  refine EV.astore 23 rfl [some (.ref v0), some (.int v1), some (.int v2), some (.ref r8), some (.ref r11)] (by decide) rfl dX8_isPartOf_21 ?_
  refine EV.aload_n 24 rfl 3 rfl rfl dX8_isPartOf_23 ?_
  obtain ⟨w13, h⟩ := h
  obtain ⟨t14, g15, h⟩ := h
  refine EV.getR 27 rfl fl_X8_128 rfl dX8_isPartOf_24 w13 g15 ?_
  refine EV.aload 29 rfl rfl dX8_isPartOf_27 ?_
  obtain ⟨w16, h⟩ := h
  obtain ⟨t17, g18, h⟩ := h
  refine EV.getR 32 rfl fl_X8_128 rfl dX8_isPartOf_29 w16 g18 ?_
  refine EV.cS rfl lk_X8_222 rfl (vs := [.ref t14, .ref t17]) (st := []) rfl rfl (Nat.le_of_ble_eq_true rfl) dX8_isPartOf_32 h (fun v σ19 h => ?_)
  obtain ⟨r20, rfl, h⟩ := h
  show EV Γ MX8_isPartOf d 35 [some (.ref v0), some (.int v1), some (.int v2), some (.ref r8), some (.ref r11)] [.int r20] σ19 Q
  exact EV.zret rfl h.1 dX8_isPartOf_35 h.2
theorem eX8_isPartOf {Γ : Gm} {d : Nat} {σ : AH} {Q : Oc → AH → Prop} {v0 : Nat} {v1 : Int32} {v2 : Int32} (h : hs σ v0 = some (6, 17) ∧ CV Γ d MX8_checkCreated [.ref v0, .int v1] σ (fun σ1 => hs σ1 v0 = some (6, 17) ∧ CV Γ d MX8_checkCreated [.ref v0, .int v2] σ1 (fun σ4 => hs σ4 v0 = some (6, 17) ∧ CR Γ d MX8_familyOf [.ref v0, .int v1] σ4 (fun r8 σ7 => hs σ7 v0 = some (6, 17) ∧ CR Γ d MX8_familyOf [.ref v0, .int v2] σ7 (fun r11 σ10 => hs σ10 r8 = some (4, 3) ∧ ∃ t14 : Nat, gr σ10 r8 0 = some t14 ∧ hs σ10 r11 = some (4, 3) ∧ ∃ t17 : Nat, gr σ10 r11 0 = some t17 ∧ CI Γ d MX7_isInside [.ref t14, .ref t17] σ10 (fun r20 σ19 => (narrow .boolean (.int r20) = .int r20 ∧ Q (.inl (some (.int r20))) σ19)) (fun _ _ => False)) (fun E σ10 => Q (.inr E) σ10)) (fun E σ7 => Q (.inr E) σ7)) (fun E σ4 => Q (.inr E) σ4)) (fun E σ1 => Q (.inr E) σ1)) : RUN Γ d MX8_isPartOf [.ref v0, .int v1, .int v2] σ Q :=
  EV.enter [some (.ref v0), some (.int v1), some (.int v2), none, none] rfl (by decide +kernel) (Nat.le_of_ble_eq_true rfl) rfl (gX8_isPartOf_0 h)
theorem gX8_setAt_0 {Γ : Gm} {d : Nat} {σ : AH} {Q : Oc → AH → Prop} {v0 : Nat} {v1 : Int32} {v2 : Int32} (h : hs σ v0 = some (6, 17) ∧ CR Γ d MX8_familyOf [.ref v0, .int v1] σ (fun r2 σ1 => hs σ1 r2 = some (4, 3) ∧ ∃ t5 : Nat, gr σ1 r2 0 = some t5 ∧ hs σ1 v0 = some (6, 17) ∧ ∃ t8 : Nat, gr σ1 v0 8 = some t8 ∧ CI Γ d MX7_list [.ref t5, .ref t8] σ1 (fun r11 σ10 => ((v2 < 0 → EV Γ MX8_setAt d 36 [none, none, none, none, none] [] σ10 Q) ∧ (¬ v2 < 0 → ((r11 ≤ v2 → EV Γ MX8_setAt d 36 [none, none, none, none, none] [] σ10 Q) ∧ (¬ r11 ≤ v2 → ((v2 < 4096 → hs σ10 v0 = some (6, 17) ∧ ∃ t16 : Nat, gr σ10 v0 8 = some t16 ∧ ∃ n19 : Nat, hs σ10 t16 = some (22, n19) ∧ ∃ j20 : Nat, IX v2 n19 j20 ∧ Q (.inl (some (.int (gi σ10 t16 j20)))) σ10) ∧ (¬ v2 < 4096 → EV Γ MX8_setAt d 36 [none, none, none, none, none] [] σ10 Q))))))) (fun _ _ => False)) (fun E σ1 => Q (.inr E) σ1)) : EV Γ MX8_setAt d 0 [some (.ref v0), some (.int v1), some (.int v2), none, none] [] σ Q := by
  refine EV.aload_n 1 rfl 0 rfl rfl dX8_setAt_0 ?_
  refine EV.iload_n 2 rfl 1 rfl rfl dX8_setAt_1 ?_
  obtain ⟨w3, h⟩ := h
  refine EV.cV rfl rfl lk_X8_124 rfl (vs := [.int v1]) (st := []) rfl rfl (Nat.le_of_ble_eq_true rfl) dX8_setAt_2 w3 h (fun v σ1 h => ?_)
  obtain ⟨r2, rfl, h⟩ := h
  show EV Γ MX8_setAt d 5 [some (.ref v0), some (.int v1), some (.int v2), none, none] [.ref r2] σ1 Q
  refine EV.astore_n 6 rfl 3 [some (.ref v0), some (.int v1), some (.int v2), some (.ref r2), none] rfl (by decide) rfl dX8_setAt_5 ?_
  refine EV.aload_n 7 rfl 3 rfl rfl dX8_setAt_6 ?_
  obtain ⟨w4, h⟩ := h
  obtain ⟨t5, g6, h⟩ := h
  refine EV.getR 10 rfl fl_X8_128 rfl dX8_setAt_7 w4 g6 ?_
  refine EV.aload_n 11 rfl 0 rfl rfl dX8_setAt_10 ?_
  obtain ⟨w7, h⟩ := h
  obtain ⟨t8, g9, h⟩ := h
  refine EV.getR 14 rfl fl_X8_38 rfl dX8_setAt_11 w7 g9 ?_
  refine EV.cS rfl lk_X8_132 rfl (vs := [.ref t5, .ref t8]) (st := []) rfl rfl (Nat.le_of_ble_eq_true rfl) dX8_setAt_14 h (fun v σ10 h => ?_)
  obtain ⟨r11, rfl, h⟩ := h
  show EV Γ MX8_setAt d 17 [some (.ref v0), some (.int v1), some (.int v2), some (.ref r2), none] [.int r11] σ10 Q
  refine EV.istore 19 rfl [some (.ref v0), some (.int v1), some (.int v2), some (.ref r2), some (.int r11)] (by decide) rfl dX8_setAt_17 ?_
  refine EV.iload_n 20 rfl 2 rfl rfl dX8_setAt_19 ?_
  refine EV.if_lt 23 36 rfl (by decide) dX8_setAt_20 (fun c12 => ?_) (fun c12 => ?_)
  · have h := h.1 c12
    refine EV.mask [false, false, false, false, false] (L' := [none, none, none, none, none]) rfl ?_
    exact h
  · have h := h.2 c12
    refine EV.iload_n 24 rfl 2 rfl rfl dX8_setAt_23 ?_
    refine EV.iload 26 rfl rfl dX8_setAt_24 ?_
    refine EV.icmp_ge 29 36 rfl (by decide) dX8_setAt_26 (fun c13 => ?_) (fun c13 => ?_)
    · have h := h.1 c13
      refine EV.mask [false, false, false, false, false] (L' := [none, none, none, none, none]) rfl ?_
      exact h
    · have h := h.2 c13
      refine EV.iload_n 30 rfl 2 rfl rfl dX8_setAt_29 ?_
      refine EV.sipush 33 rfl dX8_setAt_30 (v := 4096) (by decide) ?_
      refine EV.icmp_lt 36 44 rfl (by decide) dX8_setAt_33 (fun c14 => ?_) (fun c14 => ?_)
      · have h := h.1 c14
        refine EV.aload_n 45 rfl 0 rfl rfl dX8_setAt_44 ?_
        obtain ⟨w15, h⟩ := h
        obtain ⟨t16, g17, h⟩ := h
        refine EV.getR 48 rfl fl_X8_38 rfl dX8_setAt_45 w15 g17 ?_
        refine EV.iload_n 49 rfl 2 rfl rfl dX8_setAt_48 ?_
        obtain ⟨n19, w18, h⟩ := h
        obtain ⟨j20, x21, h⟩ := h
        refine EV.iald 50 rfl dX8_setAt_49 w18 x21 ?_
        exact EV.iret rfl dX8_setAt_50 h
      · have h := h.2 c14
        refine EV.mask [false, false, false, false, false] (L' := [none, none, none, none, none]) rfl ?_
        exact h
theorem eX8_setAt {Γ : Gm} {d : Nat} {σ : AH} {Q : Oc → AH → Prop} {v0 : Nat} {v1 : Int32} {v2 : Int32} (h : hs σ v0 = some (6, 17) ∧ CR Γ d MX8_familyOf [.ref v0, .int v1] σ (fun r2 σ1 => hs σ1 r2 = some (4, 3) ∧ ∃ t5 : Nat, gr σ1 r2 0 = some t5 ∧ hs σ1 v0 = some (6, 17) ∧ ∃ t8 : Nat, gr σ1 v0 8 = some t8 ∧ CI Γ d MX7_list [.ref t5, .ref t8] σ1 (fun r11 σ10 => ((v2 < 0 → EV Γ MX8_setAt d 36 [none, none, none, none, none] [] σ10 Q) ∧ (¬ v2 < 0 → ((r11 ≤ v2 → EV Γ MX8_setAt d 36 [none, none, none, none, none] [] σ10 Q) ∧ (¬ r11 ≤ v2 → ((v2 < 4096 → hs σ10 v0 = some (6, 17) ∧ ∃ t16 : Nat, gr σ10 v0 8 = some t16 ∧ ∃ n19 : Nat, hs σ10 t16 = some (22, n19) ∧ ∃ j20 : Nat, IX v2 n19 j20 ∧ Q (.inl (some (.int (gi σ10 t16 j20)))) σ10) ∧ (¬ v2 < 4096 → EV Γ MX8_setAt d 36 [none, none, none, none, none] [] σ10 Q))))))) (fun _ _ => False)) (fun E σ1 => Q (.inr E) σ1)) : RUN Γ d MX8_setAt [.ref v0, .int v1, .int v2] σ Q :=
  EV.enter [some (.ref v0), some (.int v1), some (.int v2), none, none] rfl (by decide +kernel) (Nat.le_of_ble_eq_true rfl) rfl (gX8_setAt_0 h)
theorem gX8_setAt_36 {Γ : Gm} {d : Nat} {σ : AH} {Q : Oc → AH → Prop} (h : 6 ≤ d ∧ Q (.inr "java/util/NoSuchElementException") (thr σ)) : EV Γ MX8_setAt d 36 [none, none, none, none, none] [] σ Q := by
  obtain ⟨z1, h⟩ := h
  exact EV.throw0 rfl th_X8_182 z1 dX8_setAt_36 dX8_setAt_39 dX8_setAt_40 dX8_setAt_43 h
theorem gX8_indexOf_0 {Γ : Gm} {d : Nat} {σ : AH} {Q : Oc → AH → Prop} {v0 : Nat} {v1 : Int32} {v2 : Int32} (h : hs σ v0 = some (6, 17) ∧ CR Γ d MX8_familyOf [.ref v0, .int v1] σ (fun r2 σ1 => hs σ1 r2 = some (4, 3) ∧ ∃ t5 : Nat, gr σ1 r2 0 = some t5 ∧ CI Γ d MX7_has [.ref t5, .int v2] σ1 (fun r8 σ7 => ((r8 ≠ 0 → hs σ7 r2 = some (4, 3) ∧ ∃ t11 : Nat, gr σ7 r2 0 = some t11 ∧ CI Γ d MX7_sizeBelow [.ref t11, .int v2] σ7 (fun r14 σ13 => Q (.inl (some (.int r14))) σ13) (fun _ _ => False)) ∧ (r8 = 0 → Q (.inl (some (.int (-1)))) σ7))) (fun _ _ => False)) (fun E σ1 => Q (.inr E) σ1)) : EV Γ MX8_indexOf d 0 [some (.ref v0), some (.int v1), some (.int v2), none] [] σ Q := by
  refine EV.aload_n 1 rfl 0 rfl rfl dX8_indexOf_0 ?_
  refine EV.iload_n 2 rfl 1 rfl rfl dX8_indexOf_1 ?_
  obtain ⟨w3, h⟩ := h
  refine EV.cV rfl rfl lk_X8_124 rfl (vs := [.int v1]) (st := []) rfl rfl (Nat.le_of_ble_eq_true rfl) dX8_indexOf_2 w3 h (fun v σ1 h => ?_)
  obtain ⟨r2, rfl, h⟩ := h
  show EV Γ MX8_indexOf d 5 [some (.ref v0), some (.int v1), some (.int v2), none] [.ref r2] σ1 Q
  refine EV.astore_n 6 rfl 3 [some (.ref v0), some (.int v1), some (.int v2), some (.ref r2)] rfl (by decide) rfl dX8_indexOf_5 ?_
  refine EV.aload_n 7 rfl 3 rfl rfl dX8_indexOf_6 ?_
  obtain ⟨w4, h⟩ := h
  obtain ⟨t5, g6, h⟩ := h
  refine EV.getR 10 rfl fl_X8_128 rfl dX8_indexOf_7 w4 g6 ?_
  refine EV.iload_n 11 rfl 2 rfl rfl dX8_indexOf_10 ?_
  refine EV.cS rfl lk_X8_218 rfl (vs := [.ref t5, .int v2]) (st := []) rfl rfl (Nat.le_of_ble_eq_true rfl) dX8_indexOf_11 h (fun v σ7 h => ?_)
  obtain ⟨r8, rfl, h⟩ := h
  show EV Γ MX8_indexOf d 14 [some (.ref v0), some (.int v1), some (.int v2), some (.ref r2)] [.int r8] σ7 Q
  refine EV.if_ne 17 19 rfl (by decide) dX8_indexOf_14 (fun c9 => ?_) (fun c9 => ?_)
  · have h := h.1 c9
    refine EV.aload_n 20 rfl 3 rfl rfl dX8_indexOf_19 ?_
    obtain ⟨w10, h⟩ := h
    obtain ⟨t11, g12, h⟩ := h
    refine EV.getR 23 rfl fl_X8_128 rfl dX8_indexOf_20 w10 g12 ?_
    refine EV.iload_n 24 rfl 2 rfl rfl dX8_indexOf_23 ?_
    refine EV.cS rfl lk_X8_226 rfl (vs := [.ref t11, .int v2]) (st := []) rfl rfl (Nat.le_of_ble_eq_true rfl) dX8_indexOf_24 h (fun v σ13 h => ?_)
    obtain ⟨r14, rfl, h⟩ := h
    show EV Γ MX8_indexOf d 27 [some (.ref v0), some (.int v1), some (.int v2), some (.ref r2)] [.int r14] σ13 Q
    exact EV.iret rfl dX8_indexOf_27 h
  · have h := h.2 c9
    refine EV.iconst 18 rfl dX8_indexOf_17 (v := (-1)) (by decide) ?_
    exact EV.iret rfl dX8_indexOf_18 h
theorem eX8_indexOf {Γ : Gm} {d : Nat} {σ : AH} {Q : Oc → AH → Prop} {v0 : Nat} {v1 : Int32} {v2 : Int32} (h : hs σ v0 = some (6, 17) ∧ CR Γ d MX8_familyOf [.ref v0, .int v1] σ (fun r2 σ1 => hs σ1 r2 = some (4, 3) ∧ ∃ t5 : Nat, gr σ1 r2 0 = some t5 ∧ CI Γ d MX7_has [.ref t5, .int v2] σ1 (fun r8 σ7 => ((r8 ≠ 0 → hs σ7 r2 = some (4, 3) ∧ ∃ t11 : Nat, gr σ7 r2 0 = some t11 ∧ CI Γ d MX7_sizeBelow [.ref t11, .int v2] σ7 (fun r14 σ13 => Q (.inl (some (.int r14))) σ13) (fun _ _ => False)) ∧ (r8 = 0 → Q (.inl (some (.int (-1)))) σ7))) (fun _ _ => False)) (fun E σ1 => Q (.inr E) σ1)) : RUN Γ d MX8_indexOf [.ref v0, .int v1, .int v2] σ Q :=
  EV.enter [some (.ref v0), some (.int v1), some (.int v2), none] rfl (by decide +kernel) (Nat.le_of_ble_eq_true rfl) rfl (gX8_indexOf_0 h)
theorem gX8_setCost_0 {Γ : Gm} {d : Nat} {σ : AH} {Q : Oc → AH → Prop} {v0 : Nat} {v1 : Int32} {v2 : Int32} (h : hs σ v0 = some (6, 17) ∧ CV Γ d MX8_checkElement [.ref v0, .int v1] σ (fun σ1 => ((v2 < (-1000) → EV Γ MX8_setCost d 19 [none, none, none] [] σ1 Q) ∧ (¬ v2 < (-1000) → ((v2 ≤ 1000 → hs σ1 v0 = some (6, 17) ∧ ∃ t7 : Nat, gr σ1 v0 14 = some t7 ∧ hs σ1 t7 = some (2, 3) ∧ CI Γ d MX2_replace [.ref t7, .int v1, .int v2] σ1 (fun r10 σ9 => Q (.inl (some (.int r10))) σ9) (fun E σ9 => Q (.inr E) σ9)) ∧ (¬ v2 ≤ 1000 → EV Γ MX8_setCost d 19 [none, none, none] [] σ1 Q))))) (fun E σ1 => Q (.inr E) σ1)) : EV Γ MX8_setCost d 0 [some (.ref v0), some (.int v1), some (.int v2)] [] σ Q := by
  refine EV.aload_n 1 rfl 0 rfl rfl dX8_setCost_0 ?_
  refine EV.iload_n 2 rfl 1 rfl rfl dX8_setCost_1 ?_
  obtain ⟨w3, h⟩ := h
  refine EV.cV rfl rfl lk_X8_209 rfl (vs := [.int v1]) (st := []) rfl rfl (Nat.le_of_ble_eq_true rfl) dX8_setCost_2 w3 h (fun v σ1 h => ?_)
  obtain ⟨rfl, h⟩ := h
  show EV Γ MX8_setCost d 5 [some (.ref v0), some (.int v1), some (.int v2)] [] σ1 Q
  refine EV.iload_n 6 rfl 2 rfl rfl dX8_setCost_5 ?_
  refine EV.sipush 9 rfl dX8_setCost_6 (v := (-1000)) (by decide) ?_
  refine EV.icmp_lt 12 19 rfl (by decide) dX8_setCost_9 (fun c4 => ?_) (fun c4 => ?_)
  · have h := h.1 c4
    refine EV.mask [false, false, false] (L' := [none, none, none]) rfl ?_
    exact h
  · have h := h.2 c4
    refine EV.iload_n 13 rfl 2 rfl rfl dX8_setCost_12 ?_
    refine EV.sipush 16 rfl dX8_setCost_13 (v := 1000) (by decide) ?_
    refine EV.icmp_le 19 27 rfl (by decide) dX8_setCost_16 (fun c5 => ?_) (fun c5 => ?_)
    · have h := h.1 c5
      refine EV.aload_n 28 rfl 0 rfl rfl dX8_setCost_27 ?_
      obtain ⟨w6, h⟩ := h
      obtain ⟨t7, g8, h⟩ := h
      refine EV.getR 31 rfl fl_X8_80 rfl dX8_setCost_28 w6 g8 ?_
      refine EV.iload_n 32 rfl 1 rfl rfl dX8_setCost_31 ?_
      refine EV.iload_n 33 rfl 2 rfl rfl dX8_setCost_32 ?_
      obtain ⟨w11, h⟩ := h
      refine EV.cV rfl rfl lk_X8_229 rfl (vs := [.int v1, .int v2]) (st := []) rfl rfl (Nat.le_of_ble_eq_true rfl) dX8_setCost_33 w11 h (fun v σ9 h => ?_)
      obtain ⟨r10, rfl, h⟩ := h
      show EV Γ MX8_setCost d 36 [some (.ref v0), some (.int v1), some (.int v2)] [.int r10] σ9 Q
      exact EV.iret rfl dX8_setCost_36 h
    · have h := h.2 c5
      refine EV.mask [false, false, false] (L' := [none, none, none]) rfl ?_
      exact h
theorem eX8_setCost {Γ : Gm} {d : Nat} {σ : AH} {Q : Oc → AH → Prop} {v0 : Nat} {v1 : Int32} {v2 : Int32} (h : hs σ v0 = some (6, 17) ∧ CV Γ d MX8_checkElement [.ref v0, .int v1] σ (fun σ1 => ((v2 < (-1000) → EV Γ MX8_setCost d 19 [none, none, none] [] σ1 Q) ∧ (¬ v2 < (-1000) → ((v2 ≤ 1000 → hs σ1 v0 = some (6, 17) ∧ ∃ t7 : Nat, gr σ1 v0 14 = some t7 ∧ hs σ1 t7 = some (2, 3) ∧ CI Γ d MX2_replace [.ref t7, .int v1, .int v2] σ1 (fun r10 σ9 => Q (.inl (some (.int r10))) σ9) (fun E σ9 => Q (.inr E) σ9)) ∧ (¬ v2 ≤ 1000 → EV Γ MX8_setCost d 19 [none, none, none] [] σ1 Q))))) (fun E σ1 => Q (.inr E) σ1)) : RUN Γ d MX8_setCost [.ref v0, .int v1, .int v2] σ Q :=
  EV.enter [some (.ref v0), some (.int v1), some (.int v2)] rfl (by decide +kernel) (Nat.le_of_ble_eq_true rfl) rfl (gX8_setCost_0 h)
theorem gX8_setCost_19 {Γ : Gm} {d : Nat} {σ : AH} {Q : Oc → AH → Prop} (h : 6 ≤ d ∧ Q (.inr "java/lang/IllegalArgumentException") (thr σ)) : EV Γ MX8_setCost d 19 [none, none, none] [] σ Q := by
  obtain ⟨z1, h⟩ := h
  exact EV.throw0 rfl th_X8_97 z1 dX8_setCost_19 dX8_setCost_22 dX8_setCost_23 dX8_setCost_26 h
theorem gX8_leastCost_0 {Γ : Gm} {d : Nat} {σ : AH} {Q : Oc → AH → Prop} {v0 : Nat} {v1 : Int32} (h : hs σ v0 = some (6, 17) ∧ CR Γ d MX8_filledFamilyOf [.ref v0, .int v1] σ (fun r2 σ1 => hs σ1 r2 = some (4, 3) ∧ ∃ t5 : Nat, gr σ1 r2 0 = some t5 ∧ hs σ1 v0 = some (6, 17) ∧ ∃ t8 : Nat, gr σ1 v0 8 = some t8 ∧ CI Γ d MX7_list [.ref t5, .ref t8] σ1 (fun r11 σ10 => EV Γ MX8_leastCost d 26 [some (.ref v0), none, none, some (.int r11), some (.int 12000), some (.int 0)] [] σ10 Q) (fun _ _ => False)) (fun E σ1 => Q (.inr E) σ1)) : EV Γ MX8_leastCost d 0 [some (.ref v0), some (.int v1), none, none, none, none] [] σ Q := by
  refine EV.aload_n 1 rfl 0 rfl rfl dX8_leastCost_0 ?_
  refine EV.iload_n 2 rfl 1 rfl rfl dX8_leastCost_1 ?_
  obtain ⟨w3, h⟩ := h
  refine EV.cV rfl rfl lk_X8_232 rfl (vs := [.int v1]) (st := []) rfl rfl (Nat.le_of_ble_eq_true rfl) dX8_leastCost_2 w3 h (fun v σ1 h => ?_)
  obtain ⟨r2, rfl, h⟩ := h
  show EV Γ MX8_leastCost d 5 [some (.ref v0), some (.int v1), none, none, none, none] [.ref r2] σ1 Q
  refine EV.astore_n 6 rfl 2 [some (.ref v0), some (.int v1), some (.ref r2), none, none, none] rfl (by decide) rfl dX8_leastCost_5 ?_
  refine EV.aload_n 7 rfl 2 rfl rfl dX8_leastCost_6 ?_
  obtain ⟨w4, h⟩ := h
  obtain ⟨t5, g6, h⟩ := h
  refine EV.getR 10 rfl fl_X8_128 rfl dX8_leastCost_7 w4 g6 ?_
  refine EV.aload_n 11 rfl 0 rfl rfl dX8_leastCost_10 ?_
  obtain ⟨w7, h⟩ := h
  obtain ⟨t8, g9, h⟩ := h
  refine EV.getR 14 rfl fl_X8_38 rfl dX8_leastCost_11 w7 g9 ?_
  refine EV.cS rfl lk_X8_132 rfl (vs := [.ref t5, .ref t8]) (st := []) rfl rfl (Nat.le_of_ble_eq_true rfl) dX8_leastCost_14 h (fun v σ10 h => ?_)
  obtain ⟨r11, rfl, h⟩ := h
  show EV Γ MX8_leastCost d 17 [some (.ref v0), some (.int v1), some (.ref r2), none, none, none] [.int r11] σ10 Q
  refine EV.istore_n 18 rfl 3 [some (.ref v0), some (.int v1), some (.ref r2), some (.int r11), none, none] rfl (by decide) rfl dX8_leastCost_17 ?_
  refine EV.sipush 21 rfl dX8_leastCost_18 (v := 12000) (by decide) ?_
  refine EV.istore 23 rfl [some (.ref v0), some (.int v1), some (.ref r2), some (.int r11), some (.int 12000), none] (by decide) rfl dX8_leastCost_21 ?_
  refine EV.iconst 24 rfl dX8_leastCost_23 (v := 0) (by decide) ?_
  refine EV.istore 26 rfl [some (.ref v0), some (.int v1), some (.ref r2), some (.int r11), some (.int 12000), some (.int 0)] (by decide) rfl dX8_leastCost_24 ?_
  refine EV.mask [true, false, false, true, true, true] (L' := [some (.ref v0), none, none, some (.int r11), some (.int 12000), some (.int 0)]) rfl ?_
  exact h
theorem eX8_leastCost {Γ : Gm} {d : Nat} {σ : AH} {Q : Oc → AH → Prop} {v0 : Nat} {v1 : Int32} (h : hs σ v0 = some (6, 17) ∧ CR Γ d MX8_filledFamilyOf [.ref v0, .int v1] σ (fun r2 σ1 => hs σ1 r2 = some (4, 3) ∧ ∃ t5 : Nat, gr σ1 r2 0 = some t5 ∧ hs σ1 v0 = some (6, 17) ∧ ∃ t8 : Nat, gr σ1 v0 8 = some t8 ∧ CI Γ d MX7_list [.ref t5, .ref t8] σ1 (fun r11 σ10 => EV Γ MX8_leastCost d 26 [some (.ref v0), none, none, some (.int r11), some (.int 12000), some (.int 0)] [] σ10 Q) (fun _ _ => False)) (fun E σ1 => Q (.inr E) σ1)) : RUN Γ d MX8_leastCost [.ref v0, .int v1] σ Q :=
  EV.enter [some (.ref v0), some (.int v1), none, none, none, none] rfl (by decide +kernel) (Nat.le_of_ble_eq_true rfl) rfl (gX8_leastCost_0 h)
theorem gX8_leastCost_26 {Γ : Gm} {d : Nat} {σ : AH} {Q : Oc → AH → Prop} {v0 : Nat} {v3 : Int32} {v4 : Int32} {v5 : Int32} (h : ((v3 ≤ v5 → Q (.inl (some (.int v4))) σ) ∧ (¬ v3 ≤ v5 → ((4096 ≤ v5 → Q (.inl (some (.int v4))) σ) ∧ (¬ 4096 ≤ v5 → hs σ v0 = some (6, 17) ∧ ∃ t4 : Nat, gr σ v0 14 = some t4 ∧ ∃ t6 : Nat, gr σ v0 8 = some t6 ∧ ∃ n9 : Nat, hs σ t6 = some (22, n9) ∧ ∃ j10 : Nat, IX v5 n9 j10 ∧ hs σ t4 = some (2, 3) ∧ CI Γ d MX2_of [.ref t4, .int (gi σ t6 j10)] σ (fun r13 σ12 => 1 ≤ d ∧ EV Γ MX8_leastCost d 26 [some (.ref v0), none, none, some (.int v3), some (.int (if r13 < v4 then r13 else v4)), some (.int (v5 + 1))] [] σ12 Q) (fun E σ12 => Q (.inr E) σ12)))))) : EV Γ MX8_leastCost d 26 [some (.ref v0), none, none, some (.int v3), some (.int v4), some (.int v5)] [] σ Q := by
  refine EV.iload 28 rfl rfl dX8_leastCost_26 ?_
  refine EV.iload_n 29 rfl 3 rfl rfl dX8_leastCost_28 ?_
  refine EV.icmp_ge 32 67 rfl (by decide) dX8_leastCost_29 (fun c1 => ?_) (fun c1 => ?_)
  · have h := h.1 c1
    refine EV.iload 69 rfl rfl dX8_leastCost_67 ?_
    exact EV.iret rfl dX8_leastCost_69 h
  · have h := h.2 c1
    refine EV.iload 34 rfl rfl dX8_leastCost_32 ?_
    refine EV.sipush 37 rfl dX8_leastCost_34 (v := 4096) (by decide) ?_
    refine EV.icmp_ge 40 67 rfl (by decide) dX8_leastCost_37 (fun c2 => ?_) (fun c2 => ?_)
    · have h := h.1 c2
      refine EV.iload 69 rfl rfl dX8_leastCost_67 ?_
      exact EV.iret rfl dX8_leastCost_69 h
    · have h := h.2 c2
      refine EV.iload 42 rfl rfl dX8_leastCost_40 ?_
      refine EV.aload_n 43 rfl 0 rfl rfl dX8_leastCost_42 ?_
      obtain ⟨w3, h⟩ := h
      obtain ⟨t4, g5, h⟩ := h
      refine EV.getR 46 rfl fl_X8_80 rfl dX8_leastCost_43 w3 g5 ?_
      refine EV.aload_n 47 rfl 0 rfl rfl dX8_leastCost_46 ?_
      obtain ⟨t6, g7, h⟩ := h
      refine EV.getR 50 rfl fl_X8_38 rfl dX8_leastCost_47 w3 g7 ?_
      refine EV.iload 52 rfl rfl dX8_leastCost_50 ?_
      obtain ⟨n9, w8, h⟩ := h
      obtain ⟨j10, x11, h⟩ := h
      refine EV.iald 53 rfl dX8_leastCost_52 w8 x11 ?_
      obtain ⟨w14, h⟩ := h
      refine EV.cV rfl rfl lk_X8_215 rfl (vs := [.int (gi σ t6 j10)]) (st := [.int v4]) rfl rfl (Nat.le_of_ble_eq_true rfl) dX8_leastCost_53 w14 h (fun v σ12 h => ?_)
      obtain ⟨r13, rfl, h⟩ := h
      show EV Γ MX8_leastCost d 56 [some (.ref v0), none, none, some (.int v3), some (.int v4), some (.int v5)] [.int r13, .int v4] σ12 Q
      obtain ⟨z15, h⟩ := h
      refine EV.mmin 59 rfl mm_X8_235 z15 (Nat.le_of_ble_eq_true rfl) dX8_leastCost_56 ?_
      refine EV.istore 61 rfl [some (.ref v0), none, none, some (.int v3), some (.int (if r13 < v4 then r13 else v4)), some (.int v5)] (by decide) rfl dX8_leastCost_59 ?_
      refine EV.iinc 64 rfl [some (.ref v0), none, none, some (.int v3), some (.int (if r13 < v4 then r13 else v4)), some (.int (v5 + 1))] (v := 1) (by decide) (by decide) rfl rfl dX8_leastCost_61 ?_
      refine EV.goto 26 (by decide) dX8_leastCost_64 ?_
      exact h
theorem gX8_meanCost_0 {Γ : Gm} {d : Nat} {σ : AH} {Q : Oc → AH → Prop} {v0 : Nat} {v1 : Int32} (h : hs σ v0 = some (6, 17) ∧ CR Γ d MX8_filledFamilyOf [.ref v0, .int v1] σ (fun r2 σ1 => hs σ1 r2 = some (4, 3) ∧ ∃ t5 : Nat, gr σ1 r2 0 = some t5 ∧ hs σ1 v0 = some (6, 17) ∧ ∃ t8 : Nat, gr σ1 v0 8 = some t8 ∧ CI Γ d MX7_list [.ref t5, .ref t8] σ1 (fun r11 σ10 => EV Γ MX8_meanCost d 24 [some (.ref v0), none, some (.ref r2), some (.int r11), some (.int 0), some (.int 0)] [] σ10 Q) (fun _ _ => False)) (fun E σ1 => Q (.inr E) σ1)) : EV Γ MX8_meanCost d 0 [some (.ref v0), some (.int v1), none, none, none, none] [] σ Q := by
  refine EV.aload_n 1 rfl 0 rfl rfl dX8_meanCost_0 ?_
  refine EV.iload_n 2 rfl 1 rfl rfl dX8_meanCost_1 ?_
  obtain ⟨w3, h⟩ := h
  refine EV.cV rfl rfl lk_X8_232 rfl (vs := [.int v1]) (st := []) rfl rfl (Nat.le_of_ble_eq_true rfl) dX8_meanCost_2 w3 h (fun v σ1 h => ?_)
  obtain ⟨r2, rfl, h⟩ := h
  show EV Γ MX8_meanCost d 5 [some (.ref v0), some (.int v1), none, none, none, none] [.ref r2] σ1 Q
  refine EV.astore_n 6 rfl 2 [some (.ref v0), some (.int v1), some (.ref r2), none, none, none] rfl (by decide) rfl dX8_meanCost_5 ?_
  refine EV.aload_n 7 rfl 2 rfl rfl dX8_meanCost_6 ?_
  obtain ⟨w4, h⟩ := h
  obtain ⟨t5, g6, h⟩ := h
  refine EV.getR 10 rfl fl_X8_128 rfl dX8_meanCost_7 w4 g6 ?_
  refine EV.aload_n 11 rfl 0 rfl rfl dX8_meanCost_10 ?_
  obtain ⟨w7, h⟩ := h
  obtain ⟨t8, g9, h⟩ := h
  refine EV.getR 14 rfl fl_X8_38 rfl dX8_meanCost_11 w7 g9 ?_
  refine EV.cS rfl lk_X8_132 rfl (vs := [.ref t5, .ref t8]) (st := []) rfl rfl (Nat.le_of_ble_eq_true rfl) dX8_meanCost_14 h (fun v σ10 h => ?_)
  obtain ⟨r11, rfl, h⟩ := h
  show EV Γ MX8_meanCost d 17 [some (.ref v0), some (.int v1), some (.ref r2), none, none, none] [.int r11] σ10 Q
  refine EV.istore_n 18 rfl 3 [some (.ref v0), some (.int v1), some (.ref r2), some (.int r11), none, none] rfl (by decide) rfl dX8_meanCost_17 ?_
  refine EV.iconst 19 rfl dX8_meanCost_18 (v := 0) (by decide) ?_
  refine EV.istore 21 rfl [some (.ref v0), some (.int v1), some (.ref r2), some (.int r11), some (.int 0), none] (by decide) rfl dX8_meanCost_19 ?_
  refine EV.iconst 22 rfl dX8_meanCost_21 (v := 0) (by decide) ?_
  refine EV.istore 24 rfl [some (.ref v0), some (.int v1), some (.ref r2), some (.int r11), some (.int 0), some (.int 0)] (by decide) rfl dX8_meanCost_22 ?_
  refine EV.mask [true, false, true, true, true, true] (L' := [some (.ref v0), none, some (.ref r2), some (.int r11), some (.int 0), some (.int 0)]) rfl ?_
  exact h
theorem eX8_meanCost {Γ : Gm} {d : Nat} {σ : AH} {Q : Oc → AH → Prop} {v0 : Nat} {v1 : Int32} (h : hs σ v0 = some (6, 17) ∧ CR Γ d MX8_filledFamilyOf [.ref v0, .int v1] σ (fun r2 σ1 => hs σ1 r2 = some (4, 3) ∧ ∃ t5 : Nat, gr σ1 r2 0 = some t5 ∧ hs σ1 v0 = some (6, 17) ∧ ∃ t8 : Nat, gr σ1 v0 8 = some t8 ∧ CI Γ d MX7_list [.ref t5, .ref t8] σ1 (fun r11 σ10 => EV Γ MX8_meanCost d 24 [some (.ref v0), none, some (.ref r2), some (.int r11), some (.int 0), some (.int 0)] [] σ10 Q) (fun _ _ => False)) (fun E σ1 => Q (.inr E) σ1)) : RUN Γ d MX8_meanCost [.ref v0, .int v1] σ Q :=
  EV.enter [some (.ref v0), some (.int v1), none, none, none, none] rfl (by decide +kernel) (Nat.le_of_ble_eq_true rfl) rfl (gX8_meanCost_0 h)
theorem gX8_meanCost_24 {Γ : Gm} {d : Nat} {σ : AH} {Q : Oc → AH → Prop} {v0 : Nat} {v2 : Nat} {v3 : Int32} {v4 : Int32} {v5 : Int32} (h : ((v3 ≤ v5 → hs σ v2 = some (4, 3) ∧ vf_n64 (FP.ddiv (FP.i2d v4) (FP.i2d (gi σ v2 1))) ∧ Q (.inl (some (.double (FP.ddiv (FP.i2d v4) (FP.i2d (gi σ v2 1)))))) σ) ∧ (¬ v3 ≤ v5 → ((4096 ≤ v5 → hs σ v2 = some (4, 3) ∧ vf_n64 (FP.ddiv (FP.i2d v4) (FP.i2d (gi σ v2 1))) ∧ Q (.inl (some (.double (FP.ddiv (FP.i2d v4) (FP.i2d (gi σ v2 1)))))) σ) ∧ (¬ 4096 ≤ v5 → hs σ v0 = some (6, 17) ∧ ∃ t8 : Nat, gr σ v0 14 = some t8 ∧ ∃ t10 : Nat, gr σ v0 8 = some t10 ∧ ∃ n13 : Nat, hs σ t10 = some (22, n13) ∧ ∃ j14 : Nat, IX v5 n13 j14 ∧ hs σ t8 = some (2, 3) ∧ CI Γ d MX2_of [.ref t8, .int (gi σ t10 j14)] σ (fun r17 σ16 => EV Γ MX8_meanCost d 24 [some (.ref v0), none, some (.ref v2), some (.int v3), some (.int (v4 + r17)), some (.int (v5 + 1))] [] σ16 Q) (fun E σ16 => Q (.inr E) σ16)))))) : EV Γ MX8_meanCost d 24 [some (.ref v0), none, some (.ref v2), some (.int v3), some (.int v4), some (.int v5)] [] σ Q := by
  refine EV.iload 26 rfl rfl dX8_meanCost_24 ?_
  refine EV.iload_n 27 rfl 3 rfl rfl dX8_meanCost_26 ?_
  refine EV.icmp_ge 30 63 rfl (by decide) dX8_meanCost_27 (fun c1 => ?_) (fun c1 => ?_)
  · have h := h.1 c1
    refine EV.iload 65 rfl rfl dX8_meanCost_63 ?_
    refine EV.i2d 66 rfl dX8_meanCost_65 ?_
    refine EV.aload_n 67 rfl 2 rfl rfl dX8_meanCost_66 ?_
    obtain ⟨w2, h⟩ := h
    refine EV.getI 70 rfl fl_X8_185 rfl dX8_meanCost_67 w2 ?_
    refine EV.i2d 71 rfl dX8_meanCost_70 ?_
    obtain ⟨z3, h⟩ := h
    refine EV.ddiv 72 rfl dX8_meanCost_71 z3 ?_
    exact EV.dret rfl dX8_meanCost_72 h
  · have h := h.2 c1
    refine EV.iload 32 rfl rfl dX8_meanCost_30 ?_
    refine EV.sipush 35 rfl dX8_meanCost_32 (v := 4096) (by decide) ?_
    refine EV.icmp_ge 38 63 rfl (by decide) dX8_meanCost_35 (fun c4 => ?_) (fun c4 => ?_)
    · have h := h.1 c4
      refine EV.iload 65 rfl rfl dX8_meanCost_63 ?_
      refine EV.i2d 66 rfl dX8_meanCost_65 ?_
      refine EV.aload_n 67 rfl 2 rfl rfl dX8_meanCost_66 ?_
      obtain ⟨w5, h⟩ := h
      refine EV.getI 70 rfl fl_X8_185 rfl dX8_meanCost_67 w5 ?_
      refine EV.i2d 71 rfl dX8_meanCost_70 ?_
      obtain ⟨z6, h⟩ := h
      refine EV.ddiv 72 rfl dX8_meanCost_71 z6 ?_
      exact EV.dret rfl dX8_meanCost_72 h
    · have h := h.2 c4
      refine EV.iload 40 rfl rfl dX8_meanCost_38 ?_
      refine EV.aload_n 41 rfl 0 rfl rfl dX8_meanCost_40 ?_
      obtain ⟨w7, h⟩ := h
      obtain ⟨t8, g9, h⟩ := h
      refine EV.getR 44 rfl fl_X8_80 rfl dX8_meanCost_41 w7 g9 ?_
      refine EV.aload_n 45 rfl 0 rfl rfl dX8_meanCost_44 ?_
      obtain ⟨t10, g11, h⟩ := h
      refine EV.getR 48 rfl fl_X8_38 rfl dX8_meanCost_45 w7 g11 ?_
      refine EV.iload 50 rfl rfl dX8_meanCost_48 ?_
      obtain ⟨n13, w12, h⟩ := h
      obtain ⟨j14, x15, h⟩ := h
      refine EV.iald 51 rfl dX8_meanCost_50 w12 x15 ?_
      obtain ⟨w18, h⟩ := h
      refine EV.cV rfl rfl lk_X8_215 rfl (vs := [.int (gi σ t10 j14)]) (st := [.int v4]) rfl rfl (Nat.le_of_ble_eq_true rfl) dX8_meanCost_51 w18 h (fun v σ16 h => ?_)
      obtain ⟨r17, rfl, h⟩ := h
      show EV Γ MX8_meanCost d 54 [some (.ref v0), none, some (.ref v2), some (.int v3), some (.int v4), some (.int v5)] [.int r17, .int v4] σ16 Q
      refine EV.iadd 55 rfl dX8_meanCost_54 ?_
      refine EV.istore 57 rfl [some (.ref v0), none, some (.ref v2), some (.int v3), some (.int (v4 + r17)), some (.int v5)] (by decide) rfl dX8_meanCost_55 ?_
      refine EV.iinc 60 rfl [some (.ref v0), none, some (.ref v2), some (.int v3), some (.int (v4 + r17)), some (.int (v5 + 1))] (v := 1) (by decide) (by decide) rfl rfl dX8_meanCost_57 ?_
      refine EV.goto 24 (by decide) dX8_meanCost_60 ?_
      exact h
theorem gX8_enumerate_0 {Γ : Gm} {d : Nat} {σ : AH} {Q : Oc → AH → Prop} {v0 : Nat} {v1 : Int32} {v2 : Int32} {v3 : Int32} (h : hs σ v0 = some (6, 17) ∧ CR Γ d MX8_familyOf [.ref v0, .int v1] σ (fun r2 σ1 => ((v3 < 1 → EV Γ MX8_enumerate d 19 [none, none, none, none, none, none, none, none] [] σ1 Q) ∧ (¬ v3 < 1 → ((v3 ≤ 300 → hs σ1 r2 = some (4, 3) ∧ ∃ t7 : Nat, gr σ1 r2 0 = some t7 ∧ hs σ1 v0 = some (6, 17) ∧ ∃ t10 : Nat, gr σ1 v0 8 = some t10 ∧ CI Γ d MX7_list [.ref t7, .ref t10] σ1 (fun r13 σ12 => EV Γ MX8_enumerate d 47 [some (.ref v0), none, some (.int v2), some (.int v3), none, some (.int r13), some (.int 0), some (.int 0)] [] σ12 Q) (fun _ _ => False)) ∧ (¬ v3 ≤ 300 → EV Γ MX8_enumerate d 19 [none, none, none, none, none, none, none, none] [] σ1 Q))))) (fun E σ1 => Q (.inr E) σ1)) : EV Γ MX8_enumerate d 0 [some (.ref v0), some (.int v1), some (.int v2), some (.int v3), none, none, none, none] [] σ Q := by
  refine EV.aload_n 1 rfl 0 rfl rfl dX8_enumerate_0 ?_
  refine EV.iload_n 2 rfl 1 rfl rfl dX8_enumerate_1 ?_
  obtain ⟨w3, h⟩ := h
  refine EV.cV rfl rfl lk_X8_124 rfl (vs := [.int v1]) (st := []) rfl rfl (Nat.le_of_ble_eq_true rfl) dX8_enumerate_2 w3 h (fun v σ1 h => ?_)
  obtain ⟨r2, rfl, h⟩ := h
  show EV Γ MX8_enumerate d 5 [some (.ref v0), some (.int v1), some (.int v2), some (.int v3), none, none, none, none] [.ref r2] σ1 Q
  refine EV.astore 7 rfl [some (.ref v0), some (.int v1), some (.int v2), some (.int v3), some (.ref r2), none, none, none] (by decide) rfl dX8_enumerate_5 ?_
  refine EV.iload_n 8 rfl 3 rfl rfl dX8_enumerate_7 ?_
  refine EV.iconst 9 rfl dX8_enumerate_8 (v := 1) (by decide) ?_
  refine EV.icmp_lt 12 19 rfl (by decide) dX8_enumerate_9 (fun c4 => ?_) (fun c4 => ?_)
  · have h := h.1 c4
    refine EV.mask [false, false, false, false, false, false, false, false] (L' := [none, none, none, none, none, none, none, none]) rfl ?_
    exact h
  · have h := h.2 c4
    refine EV.iload_n 13 rfl 3 rfl rfl dX8_enumerate_12 ?_
    refine EV.sipush 16 rfl dX8_enumerate_13 (v := 300) (by decide) ?_
    refine EV.icmp_le 19 27 rfl (by decide) dX8_enumerate_16 (fun c5 => ?_) (fun c5 => ?_)
    · have h := h.1 c5
      refine EV.aload 29 rfl rfl dX8_enumerate_27 ?_
      obtain ⟨w6, h⟩ := h
      obtain ⟨t7, g8, h⟩ := h
      refine EV.getR 32 rfl fl_X8_128 rfl dX8_enumerate_29 w6 g8 ?_
      refine EV.aload_n 33 rfl 0 rfl rfl dX8_enumerate_32 ?_
      obtain ⟨w9, h⟩ := h
      obtain ⟨t10, g11, h⟩ := h
      refine EV.getR 36 rfl fl_X8_38 rfl dX8_enumerate_33 w9 g11 ?_
      refine EV.cS rfl lk_X8_132 rfl (vs := [.ref t7, .ref t10]) (st := []) rfl rfl (Nat.le_of_ble_eq_true rfl) dX8_enumerate_36 h (fun v σ12 h => ?_)
      obtain ⟨r13, rfl, h⟩ := h
      show EV Γ MX8_enumerate d 39 [some (.ref v0), some (.int v1), some (.int v2), some (.int v3), some (.ref r2), none, none, none] [.int r13] σ12 Q
      refine EV.istore 41 rfl [some (.ref v0), some (.int v1), some (.int v2), some (.int v3), some (.ref r2), some (.int r13), none, none] (by decide) rfl dX8_enumerate_39 ?_
      refine EV.iconst 42 rfl dX8_enumerate_41 (v := 0) (by decide) ?_
      refine EV.istore 44 rfl [some (.ref v0), some (.int v1), some (.int v2), some (.int v3), some (.ref r2), some (.int r13), some (.int 0), none] (by decide) rfl dX8_enumerate_42 ?_
      refine EV.iconst 45 rfl dX8_enumerate_44 (v := 0) (by decide) ?_
      refine EV.istore 47 rfl [some (.ref v0), some (.int v1), some (.int v2), some (.int v3), some (.ref r2), some (.int r13), some (.int 0), some (.int 0)] (by decide) rfl dX8_enumerate_45 ?_
      refine EV.mask [true, false, true, true, false, true, true, true] (L' := [some (.ref v0), none, some (.int v2), some (.int v3), none, some (.int r13), some (.int 0), some (.int 0)]) rfl ?_
      exact h
    · have h := h.2 c5
      refine EV.mask [false, false, false, false, false, false, false, false] (L' := [none, none, none, none, none, none, none, none]) rfl ?_
      exact h
theorem eX8_enumerate {Γ : Gm} {d : Nat} {σ : AH} {Q : Oc → AH → Prop} {v0 : Nat} {v1 : Int32} {v2 : Int32} {v3 : Int32} (h : hs σ v0 = some (6, 17) ∧ CR Γ d MX8_familyOf [.ref v0, .int v1] σ (fun r2 σ1 => ((v3 < 1 → EV Γ MX8_enumerate d 19 [none, none, none, none, none, none, none, none] [] σ1 Q) ∧ (¬ v3 < 1 → ((v3 ≤ 300 → hs σ1 r2 = some (4, 3) ∧ ∃ t7 : Nat, gr σ1 r2 0 = some t7 ∧ hs σ1 v0 = some (6, 17) ∧ ∃ t10 : Nat, gr σ1 v0 8 = some t10 ∧ CI Γ d MX7_list [.ref t7, .ref t10] σ1 (fun r13 σ12 => EV Γ MX8_enumerate d 47 [some (.ref v0), none, some (.int v2), some (.int v3), none, some (.int r13), some (.int 0), some (.int 0)] [] σ12 Q) (fun _ _ => False)) ∧ (¬ v3 ≤ 300 → EV Γ MX8_enumerate d 19 [none, none, none, none, none, none, none, none] [] σ1 Q))))) (fun E σ1 => Q (.inr E) σ1)) : RUN Γ d MX8_enumerate [.ref v0, .int v1, .int v2, .int v3] σ Q :=
  EV.enter [some (.ref v0), some (.int v1), some (.int v2), some (.int v3), none, none, none, none] rfl (by decide +kernel) (Nat.le_of_ble_eq_true rfl) rfl (gX8_enumerate_0 h)
theorem gX8_enumerate_19 {Γ : Gm} {d : Nat} {σ : AH} {Q : Oc → AH → Prop} (h : 6 ≤ d ∧ Q (.inr "java/lang/IllegalArgumentException") (thr σ)) : EV Γ MX8_enumerate d 19 [none, none, none, none, none, none, none, none] [] σ Q := by
  obtain ⟨z1, h⟩ := h
  exact EV.throw0 rfl th_X8_97 z1 dX8_enumerate_19 dX8_enumerate_22 dX8_enumerate_23 dX8_enumerate_26 h
theorem gX8_enumerate_47 {Γ : Gm} {d : Nat} {σ : AH} {Q : Oc → AH → Prop} {v0 : Nat} {v2 : Int32} {v3 : Int32} {v5 : Int32} {v6 : Int32} {v7 : Int32} (h : ((v5 ≤ v7 → EV Γ MX8_enumerate d 118 [some (.ref v0), none, none, some (.int v3), none, none, some (.int v6), none] [] σ Q) ∧ (¬ v5 ≤ v7 → ((4096 ≤ v7 → EV Γ MX8_enumerate d 118 [some (.ref v0), none, none, some (.int v3), none, none, some (.int v6), none] [] σ Q) ∧ (¬ 4096 ≤ v7 → hs σ v0 = some (6, 17) ∧ ∃ t4 : Nat, gr σ v0 14 = some t4 ∧ ∃ t6 : Nat, gr σ v0 8 = some t6 ∧ ∃ n9 : Nat, hs σ t6 = some (22, n9) ∧ ∃ j10 : Nat, IX v7 n9 j10 ∧ hs σ t4 = some (2, 3) ∧ CI Γ d MX2_of [.ref t4, .int (gi σ t6 j10)] σ (fun r13 σ12 => ((v2 < r13 → EV Γ MX8_enumerate d 47 [some (.ref v0), none, some (.int v2), some (.int v3), none, some (.int v5), some (.int v6), some (.int (v7 + 1))] [] σ12 Q) ∧ (¬ v2 < r13 → ((4096 ≤ v6 → EV Γ MX8_enumerate d 47 [some (.ref v0), none, some (.int v2), some (.int v3), none, some (.int v5), some (.int v6), some (.int (v7 + 1))] [] σ12 Q) ∧ (¬ 4096 ≤ v6 → hs σ12 v0 = some (6, 17) ∧ ∃ t18 : Nat, gr σ12 v0 9 = some t18 ∧ ∃ t20 : Nat, gr σ12 v0 14 = some t20 ∧ ∃ t22 : Nat, gr σ12 v0 8 = some t22 ∧ ∃ n25 : Nat, hs σ12 t22 = some (22, n25) ∧ ∃ j26 : Nat, IX v7 n25 j26 ∧ hs σ12 t20 = some (2, 3) ∧ CI Γ d MX2_rank [.ref t20, .int (gi σ12 t22 j26)] σ12 (fun r29 σ28 => ∃ n32 : Nat, hs σ28 t18 = some (22, n32) ∧ ∃ j33 : Nat, IX v6 n32 j33 ∧ ∀ σ35 : AH, σ35 = setI σ28 t18 j33 r29 → EV Γ MX8_enumerate d 47 [some (.ref v0), none, some (.int v2), some (.int v3), none, some (.int v5), some (.int (v6 + 1)), some (.int (v7 + 1))] [] σ35 Q) (fun E σ28 => Q (.inr E) σ28)))))) (fun E σ12 => Q (.inr E) σ12)))))) : EV Γ MX8_enumerate d 47 [some (.ref v0), none, some (.int v2), some (.int v3), none, some (.int v5), some (.int v6), some (.int v7)] [] σ Q := by
  refine EV.iload 49 rfl rfl dX8_enumerate_47 ?_
  refine EV.iload 51 rfl rfl dX8_enumerate_49 ?_
  refine EV.icmp_ge 54 118 rfl (by decide) dX8_enumerate_51 (fun c1 => ?_) (fun c1 => ?_)
  · have h := h.1 c1
    refine EV.mask [true, false, false, true, false, false, true, false] (L' := [some (.ref v0), none, none, some (.int v3), none, none, some (.int v6), none]) rfl ?_
    exact h
  · have h := h.2 c1
    refine EV.iload 56 rfl rfl dX8_enumerate_54 ?_
    refine EV.sipush 59 rfl dX8_enumerate_56 (v := 4096) (by decide) ?_
    refine EV.icmp_ge 62 118 rfl (by decide) dX8_enumerate_59 (fun c2 => ?_) (fun c2 => ?_)
    · have h := h.1 c2
      refine EV.mask [true, false, false, true, false, false, true, false] (L' := [some (.ref v0), none, none, some (.int v3), none, none, some (.int v6), none]) rfl ?_
      exact h
    · have h := h.2 c2
      refine EV.aload_n 63 rfl 0 rfl rfl dX8_enumerate_62 ?_
      obtain ⟨w3, h⟩ := h
      obtain ⟨t4, g5, h⟩ := h
      refine EV.getR 66 rfl fl_X8_80 rfl dX8_enumerate_63 w3 g5 ?_
      refine EV.aload_n 67 rfl 0 rfl rfl dX8_enumerate_66 ?_
      obtain ⟨t6, g7, h⟩ := h
      refine EV.getR 70 rfl fl_X8_38 rfl dX8_enumerate_67 w3 g7 ?_
      refine EV.iload 72 rfl rfl dX8_enumerate_70 ?_
      obtain ⟨n9, w8, h⟩ := h
      obtain ⟨j10, x11, h⟩ := h
      refine EV.iald 73 rfl dX8_enumerate_72 w8 x11 ?_
      obtain ⟨w14, h⟩ := h
      refine EV.cV rfl rfl lk_X8_215 rfl (vs := [.int (gi σ t6 j10)]) (st := []) rfl rfl (Nat.le_of_ble_eq_true rfl) dX8_enumerate_73 w14 h (fun v σ12 h => ?_)
      obtain ⟨r13, rfl, h⟩ := h
      show EV Γ MX8_enumerate d 76 [some (.ref v0), none, some (.int v2), some (.int v3), none, some (.int v5), some (.int v6), some (.int v7)] [.int r13] σ12 Q
      refine EV.iload_n 77 rfl 2 rfl rfl dX8_enumerate_76 ?_
      refine EV.icmp_gt 80 112 rfl (by decide) dX8_enumerate_77 (fun c15 => ?_) (fun c15 => ?_)
      · have h := h.1 c15
        refine EV.iinc 115 rfl [some (.ref v0), none, some (.int v2), some (.int v3), none, some (.int v5), some (.int v6), some (.int (v7 + 1))] (v := 1) (by decide) (by decide) rfl rfl dX8_enumerate_112 ?_
        refine EV.goto 47 (by decide) dX8_enumerate_115 ?_
        exact h
      · have h := h.2 c15
        refine EV.iload 82 rfl rfl dX8_enumerate_80 ?_
        refine EV.sipush 85 rfl dX8_enumerate_82 (v := 4096) (by decide) ?_
        refine EV.icmp_ge 88 112 rfl (by decide) dX8_enumerate_85 (fun c16 => ?_) (fun c16 => ?_)
        · have h := h.1 c16
          refine EV.iinc 115 rfl [some (.ref v0), none, some (.int v2), some (.int v3), none, some (.int v5), some (.int v6), some (.int (v7 + 1))] (v := 1) (by decide) (by decide) rfl rfl dX8_enumerate_112 ?_
          refine EV.goto 47 (by decide) dX8_enumerate_115 ?_
          exact h
        · have h := h.2 c16
          refine EV.aload_n 89 rfl 0 rfl rfl dX8_enumerate_88 ?_
          obtain ⟨w17, h⟩ := h
          obtain ⟨t18, g19, h⟩ := h
          refine EV.getR 92 rfl fl_X8_42 rfl dX8_enumerate_89 w17 g19 ?_
          refine EV.iload 94 rfl rfl dX8_enumerate_92 ?_
          refine EV.aload_n 95 rfl 0 rfl rfl dX8_enumerate_94 ?_
          obtain ⟨t20, g21, h⟩ := h
          refine EV.getR 98 rfl fl_X8_80 rfl dX8_enumerate_95 w17 g21 ?_
          refine EV.aload_n 99 rfl 0 rfl rfl dX8_enumerate_98 ?_
          obtain ⟨t22, g23, h⟩ := h
          refine EV.getR 102 rfl fl_X8_38 rfl dX8_enumerate_99 w17 g23 ?_
          refine EV.iload 104 rfl rfl dX8_enumerate_102 ?_
          obtain ⟨n25, w24, h⟩ := h
          obtain ⟨j26, x27, h⟩ := h
          refine EV.iald 105 rfl dX8_enumerate_104 w24 x27 ?_
          obtain ⟨w30, h⟩ := h
          refine EV.cV rfl rfl lk_X8_238 rfl (vs := [.int (gi σ12 t22 j26)]) (st := [.int v6, .ref t18]) rfl rfl (Nat.le_of_ble_eq_true rfl) dX8_enumerate_105 w30 h (fun v σ28 h => ?_)
          obtain ⟨r29, rfl, h⟩ := h
          show EV Γ MX8_enumerate d 108 [some (.ref v0), none, some (.int v2), some (.int v3), none, some (.int v5), some (.int v6), some (.int v7)] [.int r29, .int v6, .ref t18] σ28 Q
          obtain ⟨n32, w31, h⟩ := h
          obtain ⟨j33, x34, h⟩ := h
          refine EV.iast 109 rfl dX8_enumerate_108 w31 x34 (EV.nm (fun σ35 e36 => ?_))
          have h := h σ35 e36
          have w37 := tr_hs (hs_setI_of e36) w31
          refine EV.iinc 112 rfl [some (.ref v0), none, some (.int v2), some (.int v3), none, some (.int v5), some (.int (v6 + 1)), some (.int v7)] (v := 1) (by decide) (by decide) rfl rfl dX8_enumerate_109 ?_
          refine EV.iinc 115 rfl [some (.ref v0), none, some (.int v2), some (.int v3), none, some (.int v5), some (.int (v6 + 1)), some (.int (v7 + 1))] (v := 1) (by decide) (by decide) rfl rfl dX8_enumerate_112 ?_
          refine EV.goto 47 (by decide) dX8_enumerate_115 ?_
          exact h
theorem gX8_enumerate_118 {Γ : Gm} {d : Nat} {σ : AH} {Q : Oc → AH → Prop} {v0 : Nat} {v3 : Int32} {v6 : Int32} (h : 1 ≤ d ∧ hs σ v0 = some (6, 17) ∧ CV Γ d MX8_keepCheapest [.ref v0, .int v6, .int (if v6 < v3 then v6 else v3)] σ (fun σ2 => hs σ2 v0 = some (6, 17) ∧ Q (.inl (some (.int (gi σ2 v0 16)))) σ2) (fun E σ2 => Q (.inr E) σ2)) : EV Γ MX8_enumerate d 118 [some (.ref v0), none, none, some (.int v3), none, none, some (.int v6), none] [] σ Q := by
  refine EV.aload_n 119 rfl 0 rfl rfl dX8_enumerate_118 ?_
  refine EV.iload 121 rfl rfl dX8_enumerate_119 ?_
  refine EV.iload_n 122 rfl 3 rfl rfl dX8_enumerate_121 ?_
  refine EV.iload 124 rfl rfl dX8_enumerate_122 ?_
  obtain ⟨z1, h⟩ := h
  refine EV.mmin 127 rfl mm_X8_235 z1 (Nat.le_of_ble_eq_true rfl) dX8_enumerate_124 ?_
  obtain ⟨w4, h⟩ := h
  refine EV.cV rfl rfl lk_X8_241 rfl (vs := [.int v6, .int (if v6 < v3 then v6 else v3)]) (st := []) rfl rfl (Nat.le_of_ble_eq_true rfl) dX8_enumerate_127 w4 h (fun v σ2 h => ?_)
  obtain ⟨rfl, h⟩ := h
  show EV Γ MX8_enumerate d 130 [some (.ref v0), none, none, some (.int v3), none, none, some (.int v6), none] [] σ2 Q
  refine EV.aload_n 131 rfl 0 rfl rfl dX8_enumerate_130 ?_
  obtain ⟨w5, h⟩ := h
  refine EV.getI 134 rfl fl_X8_87 rfl dX8_enumerate_131 w5 ?_
  exact EV.iret rfl dX8_enumerate_134 h
theorem gX8_keepCheapest_0 {Γ : Gm} {d : Nat} {σ : AH} {Q : Oc → AH → Prop} {v0 : Nat} {v1 : Int32} {v2 : Int32} (h : hs σ v0 = some (6, 17) ∧ ∃ t2 : Nat, gr σ v0 9 = some t2 ∧ CV Γ d MX5_order [.ref t2, .int v1] σ (fun σ4 => hs σ4 v0 = some (6, 17) ∧ ∀ σ7 : AH, σ7 = setI σ4 v0 16 0 → EV Γ MX8_keepCheapest d 15 [some (.ref v0), some (.int v1), some (.int v2), some (.int 0)] [] σ7 Q) (fun _ _ => False)) : EV Γ MX8_keepCheapest d 0 [some (.ref v0), some (.int v1), some (.int v2), none] [] σ Q := by
  refine EV.aload_n 1 rfl 0 rfl rfl dX8_keepCheapest_0 ?_
  obtain ⟨w1, h⟩ := h
  obtain ⟨t2, g3, h⟩ := h
  refine EV.getR 4 rfl fl_X8_42 rfl dX8_keepCheapest_1 w1 g3 ?_
  refine EV.iload_n 5 rfl 1 rfl rfl dX8_keepCheapest_4 ?_
  refine EV.cS rfl lk_X8_245 rfl (vs := [.ref t2, .int v1]) (st := []) rfl rfl (Nat.le_of_ble_eq_true rfl) dX8_keepCheapest_5 h (fun v σ4 h => ?_)
  obtain ⟨rfl, h⟩ := h
  show EV Γ MX8_keepCheapest d 8 [some (.ref v0), some (.int v1), some (.int v2), none] [] σ4 Q
  refine EV.aload_n 9 rfl 0 rfl rfl dX8_keepCheapest_8 ?_
  refine EV.iconst 10 rfl dX8_keepCheapest_9 (v := 0) (by decide) ?_
  obtain ⟨w6, h⟩ := h
  refine EV.putI 13 rfl fw_X8_87 rfl (by decide) dX8_keepCheapest_10 w6 (EV.nm (fun σ7 e8 => ?_))
  have h := h σ7 e8
  have w9 := tr_hs (hs_setI_of e8) w6
  refine EV.iconst 14 rfl dX8_keepCheapest_13 (v := 0) (by decide) ?_
  refine EV.istore_n 15 rfl 3 [some (.ref v0), some (.int v1), some (.int v2), some (.int 0)] rfl (by decide) rfl dX8_keepCheapest_14 ?_
  exact h
theorem eX8_keepCheapest {Γ : Gm} {d : Nat} {σ : AH} {Q : Oc → AH → Prop} {v0 : Nat} {v1 : Int32} {v2 : Int32} (h : hs σ v0 = some (6, 17) ∧ ∃ t2 : Nat, gr σ v0 9 = some t2 ∧ CV Γ d MX5_order [.ref t2, .int v1] σ (fun σ4 => hs σ4 v0 = some (6, 17) ∧ ∀ σ7 : AH, σ7 = setI σ4 v0 16 0 → EV Γ MX8_keepCheapest d 15 [some (.ref v0), some (.int v1), some (.int v2), some (.int 0)] [] σ7 Q) (fun _ _ => False)) : RUN Γ d MX8_keepCheapest [.ref v0, .int v1, .int v2] σ Q :=
  EV.enter [some (.ref v0), some (.int v1), some (.int v2), none] rfl (by decide +kernel) (Nat.le_of_ble_eq_true rfl) rfl (gX8_keepCheapest_0 h)
theorem gX8_keepCheapest_15 {Γ : Gm} {d : Nat} {σ : AH} {Q : Oc → AH → Prop} {v0 : Nat} {v1 : Int32} {v2 : Int32} {v3 : Int32} (h : ((v2 ≤ v3 → Q (.inl none) σ) ∧ (¬ v2 ≤ v3 → ((300 ≤ v3 → Q (.inl none) σ) ∧ (¬ 300 ≤ v3 → hs σ v0 = some (6, 17) ∧ ∃ t4 : Nat, gr σ v0 15 = some t4 ∧ ∃ t6 : Nat, gr σ v0 9 = some t6 ∧ CI Γ d MX5_takeLeast [.ref t6, .int (v1 - v3)] σ (fun r9 σ8 => ∃ n11 : Nat, hs σ8 t4 = some (22, n11) ∧ ∃ j12 : Nat, IX v3 n11 j12 ∧ ∀ σ14 : AH, σ14 = setI σ8 t4 j12 (r9 &&& 4095) → hs σ14 v0 = some (6, 17) ∧ ∀ σ18 : AH, σ18 = setI σ14 v0 16 ((gi σ14 v0 16) + 1) → EV Γ MX8_keepCheapest d 15 [some (.ref v0), some (.int v1), some (.int v2), some (.int (v3 + 1))] [] σ18 Q) (fun _ _ => False)))))) : EV Γ MX8_keepCheapest d 15 [some (.ref v0), some (.int v1), some (.int v2), some (.int v3)] [] σ Q := by
  refine EV.iload_n 16 rfl 3 rfl rfl dX8_keepCheapest_15 ?_
  refine EV.iload_n 17 rfl 2 rfl rfl dX8_keepCheapest_16 ?_
  refine EV.icmp_ge 20 63 rfl (by decide) dX8_keepCheapest_17 (fun c1 => ?_) (fun c1 => ?_)
  · have h := h.1 c1
    exact EV.vret rfl dX8_keepCheapest_63 h
  · have h := h.2 c1
    refine EV.iload_n 21 rfl 3 rfl rfl dX8_keepCheapest_20 ?_
    refine EV.sipush 24 rfl dX8_keepCheapest_21 (v := 300) (by decide) ?_
    refine EV.icmp_ge 27 63 rfl (by decide) dX8_keepCheapest_24 (fun c2 => ?_) (fun c2 => ?_)
    · have h := h.1 c2
      exact EV.vret rfl dX8_keepCheapest_63 h
    · have h := h.2 c2
      refine EV.aload_n 28 rfl 0 rfl rfl dX8_keepCheapest_27 ?_
      obtain ⟨w3, h⟩ := h
      obtain ⟨t4, g5, h⟩ := h
      refine EV.getR 31 rfl fl_X8_84 rfl dX8_keepCheapest_28 w3 g5 ?_
      refine EV.iload_n 32 rfl 3 rfl rfl dX8_keepCheapest_31 ?_
      refine EV.aload_n 33 rfl 0 rfl rfl dX8_keepCheapest_32 ?_
      obtain ⟨t6, g7, h⟩ := h
      refine EV.getR 36 rfl fl_X8_42 rfl dX8_keepCheapest_33 w3 g7 ?_
      refine EV.iload_n 37 rfl 1 rfl rfl dX8_keepCheapest_36 ?_
      refine EV.iload_n 38 rfl 3 rfl rfl dX8_keepCheapest_37 ?_
      refine EV.isub 39 rfl dX8_keepCheapest_38 ?_
      refine EV.cS rfl lk_X8_251 rfl (vs := [.ref t6, .int (v1 - v3)]) (st := [.int v3, .ref t4]) rfl rfl (Nat.le_of_ble_eq_true rfl) dX8_keepCheapest_39 h (fun v σ8 h => ?_)
      obtain ⟨r9, rfl, h⟩ := h
      show EV Γ MX8_keepCheapest d 42 [some (.ref v0), some (.int v1), some (.int v2), some (.int v3)] [.int r9, .int v3, .ref t4] σ8 Q
      refine EV.sipush 45 rfl dX8_keepCheapest_42 (v := 4095) (by decide) ?_
      refine EV.iand 46 rfl dX8_keepCheapest_45 ?_
      obtain ⟨n11, w10, h⟩ := h
      obtain ⟨j12, x13, h⟩ := h
      refine EV.iast 47 rfl dX8_keepCheapest_46 w10 x13 (EV.nm (fun σ14 e15 => ?_))
      have h := h σ14 e15
      have w16 := tr_hs (hs_setI_of e15) w10
      refine EV.aload_n 48 rfl 0 rfl rfl dX8_keepCheapest_47 ?_
      refine EV.dup 49 rfl dX8_keepCheapest_48 rfl ?_
      obtain ⟨w17, h⟩ := h
      refine EV.getI 52 rfl fl_X8_87 rfl dX8_keepCheapest_49 w17 ?_
      refine EV.iconst 53 rfl dX8_keepCheapest_52 (v := 1) (by decide) ?_
      refine EV.iadd 54 rfl dX8_keepCheapest_53 ?_
      refine EV.putI 57 rfl fw_X8_87 rfl (by decide) dX8_keepCheapest_54 w17 (EV.nm (fun σ18 e19 => ?_))
      have h := h σ18 e19
      have w20 := tr_hs (hs_setI_of e19) w16
      have w21 := tr_hs (hs_setI_of e19) w17
      refine EV.iinc 60 rfl [some (.ref v0), some (.int v1), some (.int v2), some (.int (v3 + 1))] (v := 1) (by decide) (by decide) rfl rfl dX8_keepCheapest_57 ?_
      refine EV.goto 15 (by decide) dX8_keepCheapest_60 ?_
      exact h
theorem gX8_enumerated_0 {Γ : Gm} {d : Nat} {σ : AH} {Q : Oc → AH → Prop} {v0 : Nat} {v1 : Int32} (h : ((v1 < 0 → EV Γ MX8_enumerated d 19 [none, none] [] σ Q) ∧ (¬ v1 < 0 → hs σ v0 = some (6, 17) ∧ (((gi σ v0 16) ≤ v1 → EV Γ MX8_enumerated d 19 [none, none] [] σ Q) ∧ (¬ (gi σ v0 16) ≤ v1 → ((v1 < 300 → ∃ t5 : Nat, gr σ v0 15 = some t5 ∧ ∃ n8 : Nat, hs σ t5 = some (22, n8) ∧ ∃ j9 : Nat, IX v1 n8 j9 ∧ Q (.inl (some (.int (gi σ t5 j9)))) σ) ∧ (¬ v1 < 300 → EV Γ MX8_enumerated d 19 [none, none] [] σ Q))))))) : EV Γ MX8_enumerated d 0 [some (.ref v0), some (.int v1)] [] σ Q := by
  refine EV.iload_n 1 rfl 1 rfl rfl dX8_enumerated_0 ?_
  refine EV.if_lt 4 19 rfl (by decide) dX8_enumerated_1 (fun c1 => ?_) (fun c1 => ?_)
  · have h := h.1 c1
    refine EV.mask [false, false] (L' := [none, none]) rfl ?_
    exact h
  · have h := h.2 c1
    refine EV.iload_n 5 rfl 1 rfl rfl dX8_enumerated_4 ?_
    refine EV.aload_n 6 rfl 0 rfl rfl dX8_enumerated_5 ?_
    obtain ⟨w2, h⟩ := h
    refine EV.getI 9 rfl fl_X8_87 rfl dX8_enumerated_6 w2 ?_
    refine EV.icmp_ge 12 19 rfl (by decide) dX8_enumerated_9 (fun c3 => ?_) (fun c3 => ?_)
    · have h := h.1 c3
      refine EV.mask [false, false] (L' := [none, none]) rfl ?_
      exact h
    · have h := h.2 c3
      refine EV.iload_n 13 rfl 1 rfl rfl dX8_enumerated_12 ?_
      refine EV.sipush 16 rfl dX8_enumerated_13 (v := 300) (by decide) ?_
      refine EV.icmp_lt 19 27 rfl (by decide) dX8_enumerated_16 (fun c4 => ?_) (fun c4 => ?_)
      · have h := h.1 c4
        refine EV.aload_n 28 rfl 0 rfl rfl dX8_enumerated_27 ?_
        obtain ⟨t5, g6, h⟩ := h
        refine EV.getR 31 rfl fl_X8_84 rfl dX8_enumerated_28 w2 g6 ?_
        refine EV.iload_n 32 rfl 1 rfl rfl dX8_enumerated_31 ?_
        obtain ⟨n8, w7, h⟩ := h
        obtain ⟨j9, x10, h⟩ := h
        refine EV.iald 33 rfl dX8_enumerated_32 w7 x10 ?_
        exact EV.iret rfl dX8_enumerated_33 h
      · have h := h.2 c4
        refine EV.mask [false, false] (L' := [none, none]) rfl ?_
        exact h
theorem eX8_enumerated {Γ : Gm} {d : Nat} {σ : AH} {Q : Oc → AH → Prop} {v0 : Nat} {v1 : Int32} (h : ((v1 < 0 → EV Γ MX8_enumerated d 19 [none, none] [] σ Q) ∧ (¬ v1 < 0 → hs σ v0 = some (6, 17) ∧ (((gi σ v0 16) ≤ v1 → EV Γ MX8_enumerated d 19 [none, none] [] σ Q) ∧ (¬ (gi σ v0 16) ≤ v1 → ((v1 < 300 → ∃ t5 : Nat, gr σ v0 15 = some t5 ∧ ∃ n8 : Nat, hs σ t5 = some (22, n8) ∧ ∃ j9 : Nat, IX v1 n8 j9 ∧ Q (.inl (some (.int (gi σ t5 j9)))) σ) ∧ (¬ v1 < 300 → EV Γ MX8_enumerated d 19 [none, none] [] σ Q))))))) : RUN Γ d MX8_enumerated [.ref v0, .int v1] σ Q :=
  EV.enter [some (.ref v0), some (.int v1)] rfl (by decide +kernel) (Nat.le_of_ble_eq_true rfl) rfl (gX8_enumerated_0 h)
theorem gX8_enumerated_19 {Γ : Gm} {d : Nat} {σ : AH} {Q : Oc → AH → Prop} (h : 6 ≤ d ∧ Q (.inr "java/lang/IndexOutOfBoundsException") (thr σ)) : EV Γ MX8_enumerated d 19 [none, none] [] σ Q := by
  obtain ⟨z1, h⟩ := h
  exact EV.throw0 rfl th_X8_159 z1 dX8_enumerated_19 dX8_enumerated_22 dX8_enumerated_23 dX8_enumerated_26 h
theorem gX8_digest_0 {Γ : Gm} {d : Nat} {σ : AH} {Q : Oc → AH → Prop} {v0 : Nat} (h : hs σ v0 = some (6, 17) ∧ EV Γ MX8_digest d 18 [some (.ref v0), some (.long (((29 : Int64) * 31) + (Int32.toInt64 (gi σ v0 6)))), none, some (.int 0), none] [] σ Q) : EV Γ MX8_digest d 0 [some (.ref v0), none, none, none, none] [] σ Q := by
  refine EV.ldc2 3 rfl k_X8_255 dX8_digest_0 ?_
  refine EV.lstore_n 4 rfl 1 [some (.ref v0), some (.long 29), none, none, none] rfl (by decide) rfl dX8_digest_3 ?_
  refine EV.lload_n 5 rfl 1 rfl rfl dX8_digest_4 ?_
  refine EV.ldc2 8 rfl k_X8_257 dX8_digest_5 ?_
  refine EV.lmul 9 rfl dX8_digest_8 ?_
  refine EV.aload_n 10 rfl 0 rfl rfl dX8_digest_9 ?_
  obtain ⟨w1, h⟩ := h
  refine EV.getI 13 rfl fl_X8_32 rfl dX8_digest_10 w1 ?_
  refine EV.i2l 14 rfl dX8_digest_13 ?_
  refine EV.ladd 15 rfl dX8_digest_14 ?_
  refine EV.lstore_n 16 rfl 1 [some (.ref v0), some (.long (((29 : Int64) * 31) + (Int32.toInt64 (gi σ v0 6)))), none, none, none] rfl (by decide) rfl dX8_digest_15 ?_
  refine EV.iconst 17 rfl dX8_digest_16 (v := 0) (by decide) ?_
  refine EV.istore_n 18 rfl 3 [some (.ref v0), some (.long (((29 : Int64) * 31) + (Int32.toInt64 (gi σ v0 6)))), none, some (.int 0), none] rfl (by decide) rfl dX8_digest_17 ?_
  exact h
theorem eX8_digest {Γ : Gm} {d : Nat} {σ : AH} {Q : Oc → AH → Prop} {v0 : Nat} (h : hs σ v0 = some (6, 17) ∧ EV Γ MX8_digest d 18 [some (.ref v0), some (.long (((29 : Int64) * 31) + (Int32.toInt64 (gi σ v0 6)))), none, some (.int 0), none] [] σ Q) : RUN Γ d MX8_digest [.ref v0] σ Q :=
  EV.enter [some (.ref v0), none, none, none, none] rfl (by decide +kernel) (Nat.le_of_ble_eq_true rfl) rfl (gX8_digest_0 h)
theorem gX8_digest_18 {Γ : Gm} {d : Nat} {σ : AH} {Q : Oc → AH → Prop} {v0 : Nat} {v1 : Int64} {v3 : Int32} (h : hs σ v0 = some (6, 17) ∧ (((gi σ v0 6) ≤ v3 → EV Γ MX8_digest d 89 [some (.ref v0), some (.long v1), none, none, none] [] σ Q) ∧ (¬ (gi σ v0 6) ≤ v3 → ((200 ≤ v3 → EV Γ MX8_digest d 89 [some (.ref v0), some (.long v1), none, none, none] [] σ Q) ∧ (¬ 200 ≤ v3 → ∃ t4 : Nat, gr σ v0 5 = some t4 ∧ ∃ n7 : Nat, hs σ t4 = some (25, n7) ∧ ∃ j8 : Nat, IX v3 n7 j8 ∧ ((gr σ t4 j8 = none → EV Γ MX8_digest d 18 [some (.ref v0), some (.long ((v1 * 31) - 1)), none, some (.int (v3 + 1)), none] [] σ Q) ∧ (∀ t10 : Nat, gr σ t4 j8 = some t10 → hs σ t10 = some (4, 3) ∧ EV Γ MX8_digest d 18 [some (.ref v0), some (.long ((((v1 * 31) + (Int32.toInt64 (gi σ t10 1))) * 31) + (Int32.toInt64 (gi σ t10 2)))), none, some (.int (v3 + 1)), none] [] σ Q))))))) : EV Γ MX8_digest d 18 [some (.ref v0), some (.long v1), none, some (.int v3), none] [] σ Q := by
  refine EV.iload_n 19 rfl 3 rfl rfl dX8_digest_18 ?_
  refine EV.aload_n 20 rfl 0 rfl rfl dX8_digest_19 ?_
  obtain ⟨w1, h⟩ := h
  refine EV.getI 23 rfl fl_X8_32 rfl dX8_digest_20 w1 ?_
  refine EV.icmp_ge 26 89 rfl (by decide) dX8_digest_23 (fun c2 => ?_) (fun c2 => ?_)
  · have h := h.1 c2
    refine EV.mask [true, true, false, false, false] (L' := [some (.ref v0), some (.long v1), none, none, none]) rfl ?_
    exact h
  · have h := h.2 c2
    refine EV.iload_n 27 rfl 3 rfl rfl dX8_digest_26 ?_
    refine EV.sipush 30 rfl dX8_digest_27 (v := 200) (by decide) ?_
    refine EV.icmp_ge 33 89 rfl (by decide) dX8_digest_30 (fun c3 => ?_) (fun c3 => ?_)
    · have h := h.1 c3
      refine EV.mask [true, true, false, false, false] (L' := [some (.ref v0), some (.long v1), none, none, none]) rfl ?_
      exact h
    · have h := h.2 c3
      refine EV.aload_n 34 rfl 0 rfl rfl dX8_digest_33 ?_
      obtain ⟨t4, g5, h⟩ := h
      refine EV.getR 37 rfl fl_X8_28 rfl dX8_digest_34 w1 g5 ?_
      refine EV.iload_n 38 rfl 3 rfl rfl dX8_digest_37 ?_
      obtain ⟨n7, w6, h⟩ := h
      obtain ⟨j8, x9, h⟩ := h
      refine EV.aaldF 39 rfl dX8_digest_38 w6 x9 ?_
      rcases g11 : gr σ t4 j8 with _ | t10
      · have h := h.1 g11
        show EV Γ MX8_digest d 39 [some (.ref v0), some (.long v1), none, some (.int v3), none] [.null] σ Q
        refine EV.astoreQ 41 rfl [some (.ref v0), some (.long v1), none, some (.int v3), some (.null)] (r := none) (by decide) rfl dX8_digest_39 ?_
        refine EV.aloadQ 43 rfl (r := none) rfl dX8_digest_41 ?_
        refine EV.ifnonnull 46 57 rfl (r := none) (by decide) dX8_digest_43 (fun _ hh => by cases hh) (fun _ => ?_)
        refine EV.lload_n 47 rfl 1 rfl rfl dX8_digest_46 ?_
        refine EV.ldc2 50 rfl k_X8_257 dX8_digest_47 ?_
        refine EV.lmul 51 rfl dX8_digest_50 ?_
        refine EV.lconst 52 rfl dX8_digest_51 (v := 1) (by decide) ?_
        refine EV.lsub 53 rfl dX8_digest_52 ?_
        refine EV.lstore_n 54 rfl 1 [some (.ref v0), some (.long ((v1 * 31) - 1)), none, some (.int v3), some (.null)] rfl (by decide) rfl dX8_digest_53 ?_
        refine EV.goto 83 (by decide) dX8_digest_54 ?_
        refine EV.iinc 86 rfl [some (.ref v0), some (.long ((v1 * 31) - 1)), none, some (.int (v3 + 1)), some (.null)] (v := 1) (by decide) (by decide) rfl rfl dX8_digest_83 ?_
        refine EV.goto 18 (by decide) dX8_digest_86 ?_
        refine EV.mask [true, true, false, true, false] (L' := [some (.ref v0), some (.long ((v1 * 31) - 1)), none, some (.int (v3 + 1)), none]) rfl ?_
        exact h
      · have h := h.2 t10 g11
        show EV Γ MX8_digest d 39 [some (.ref v0), some (.long v1), none, some (.int v3), none] [.ref t10] σ Q
        refine EV.astore 41 rfl [some (.ref v0), some (.long v1), none, some (.int v3), some (.ref t10)] (by decide) rfl dX8_digest_39 ?_
        refine EV.aload 43 rfl rfl dX8_digest_41 ?_
        refine EV.ifnonnull 46 57 rfl (r := some t10) (by decide) dX8_digest_43 (fun _ _ => ?_) (fun hh => by cases hh)
        refine EV.lload_n 58 rfl 1 rfl rfl dX8_digest_57 ?_
        refine EV.ldc2 61 rfl k_X8_257 dX8_digest_58 ?_
        refine EV.lmul 62 rfl dX8_digest_61 ?_
        refine EV.aload 64 rfl rfl dX8_digest_62 ?_
        obtain ⟨w12, h⟩ := h
        refine EV.getI 67 rfl fl_X8_185 rfl dX8_digest_64 w12 ?_
        refine EV.i2l 68 rfl dX8_digest_67 ?_
        refine EV.ladd 69 rfl dX8_digest_68 ?_
        refine EV.lstore_n 70 rfl 1 [some (.ref v0), some (.long ((v1 * 31) + (Int32.toInt64 (gi σ t10 1)))), none, some (.int v3), some (.ref t10)] rfl (by decide) rfl dX8_digest_69 ?_
        refine EV.lload_n 71 rfl 1 rfl rfl dX8_digest_70 ?_
        refine EV.ldc2 74 rfl k_X8_257 dX8_digest_71 ?_
        refine EV.lmul 75 rfl dX8_digest_74 ?_
        refine EV.aload 77 rfl rfl dX8_digest_75 ?_
        refine EV.getI 80 rfl fl_X8_176 rfl dX8_digest_77 w12 ?_
        refine EV.i2l 81 rfl dX8_digest_80 ?_
        refine EV.ladd 82 rfl dX8_digest_81 ?_
        refine EV.lstore_n 83 rfl 1 [some (.ref v0), some (.long ((((v1 * 31) + (Int32.toInt64 (gi σ t10 1))) * 31) + (Int32.toInt64 (gi σ t10 2)))), none, some (.int v3), some (.ref t10)] rfl (by decide) rfl dX8_digest_82 ?_
        refine EV.iinc 86 rfl [some (.ref v0), some (.long ((((v1 * 31) + (Int32.toInt64 (gi σ t10 1))) * 31) + (Int32.toInt64 (gi σ t10 2)))), none, some (.int (v3 + 1)), some (.ref t10)] (v := 1) (by decide) (by decide) rfl rfl dX8_digest_83 ?_
        refine EV.goto 18 (by decide) dX8_digest_86 ?_
        refine EV.mask [true, true, false, true, false] (L' := [some (.ref v0), some (.long ((((v1 * 31) + (Int32.toInt64 (gi σ t10 1))) * 31) + (Int32.toInt64 (gi σ t10 2)))), none, some (.int (v3 + 1)), none]) rfl ?_
        exact h
theorem gX8_digest_89 {Γ : Gm} {d : Nat} {σ : AH} {Q : Oc → AH → Prop} {v0 : Nat} {v1 : Int64} (h : hs σ v0 = some (6, 17) ∧ ∃ t2 : Nat, gr σ v0 11 = some t2 ∧ hs σ t2 = some (3, 8) ∧ EV Γ MX8_digest d 106 [some (.ref v0), some (.long ((v1 * 31) + (Int32.toInt64 (gi σ t2 7)))), none, some (.int 0), none] [] σ Q) : EV Γ MX8_digest d 89 [some (.ref v0), some (.long v1), none, none, none] [] σ Q := by
  refine EV.lload_n 90 rfl 1 rfl rfl dX8_digest_89 ?_
  refine EV.ldc2 93 rfl k_X8_257 dX8_digest_90 ?_
  refine EV.lmul 94 rfl dX8_digest_93 ?_
  refine EV.aload_n 95 rfl 0 rfl rfl dX8_digest_94 ?_
  obtain ⟨w1, h⟩ := h
  obtain ⟨t2, g3, h⟩ := h
  refine EV.getR 98 rfl fl_X8_59 rfl dX8_digest_95 w1 g3 ?_
  obtain ⟨w4, h⟩ := h
  refine EV.getIN 101 rfl fn_X8_173 rfl dX8_digest_98 w4 ?_
  refine EV.i2l 102 rfl dX8_digest_101 ?_
  refine EV.ladd 103 rfl dX8_digest_102 ?_
  refine EV.lstore_n 104 rfl 1 [some (.ref v0), some (.long ((v1 * 31) + (Int32.toInt64 (gi σ t2 7)))), none, none, none] rfl (by decide) rfl dX8_digest_103 ?_
  refine EV.iconst 105 rfl dX8_digest_104 (v := 0) (by decide) ?_
  refine EV.istore_n 106 rfl 3 [some (.ref v0), some (.long ((v1 * 31) + (Int32.toInt64 (gi σ t2 7)))), none, some (.int 0), none] rfl (by decide) rfl dX8_digest_105 ?_
  exact h
theorem gX8_digest_106 {Γ : Gm} {d : Nat} {σ : AH} {Q : Oc → AH → Prop} {v0 : Nat} {v1 : Int64} {v3 : Int32} (h : ((12 ≤ v3 → Q (.inl (some (.long v1))) σ) ∧ (¬ 12 ≤ v3 → hs σ v0 = some (6, 17) ∧ ∃ t3 : Nat, gr σ v0 14 = some t3 ∧ hs σ t3 = some (2, 3) ∧ ∃ t6 : Nat, gr σ t3 0 = some t6 ∧ ∃ n9 : Nat, hs σ t6 = some (22, n9) ∧ ∃ j10 : Nat, IX v3 n9 j10 ∧ EV Γ MX8_digest d 106 [some (.ref v0), some (.long ((v1 * 31) + (Int32.toInt64 (gi σ t6 j10)))), none, some (.int (v3 + 1)), none] [] σ Q))) : EV Γ MX8_digest d 106 [some (.ref v0), some (.long v1), none, some (.int v3), none] [] σ Q := by
  refine EV.iload_n 107 rfl 3 rfl rfl dX8_digest_106 ?_
  refine EV.bipush 109 rfl dX8_digest_107 (v := 12) (by decide) ?_
  refine EV.icmp_ge 112 135 rfl (by decide) dX8_digest_109 (fun c1 => ?_) (fun c1 => ?_)
  · have h := h.1 c1
    refine EV.lload_n 136 rfl 1 rfl rfl dX8_digest_135 ?_
    exact EV.lret rfl dX8_digest_136 h
  · have h := h.2 c1
    refine EV.lload_n 113 rfl 1 rfl rfl dX8_digest_112 ?_
    refine EV.ldc2 116 rfl k_X8_257 dX8_digest_113 ?_
    refine EV.lmul 117 rfl dX8_digest_116 ?_
    refine EV.aload_n 118 rfl 0 rfl rfl dX8_digest_117 ?_
    obtain ⟨w2, h⟩ := h
    obtain ⟨t3, g4, h⟩ := h
    refine EV.getR 121 rfl fl_X8_80 rfl dX8_digest_118 w2 g4 ?_
    obtain ⟨w5, h⟩ := h
    obtain ⟨t6, g7, h⟩ := h
    refine EV.getRN 124 rfl fn_X8_259 rfl dX8_digest_121 w5 g7 ?_
    refine EV.iload_n 125 rfl 3 rfl rfl dX8_digest_124 ?_
    obtain ⟨n9, w8, h⟩ := h
    obtain ⟨j10, x11, h⟩ := h
    refine EV.iald 126 rfl dX8_digest_125 w8 x11 ?_
    refine EV.i2l 127 rfl dX8_digest_126 ?_
    refine EV.ladd 128 rfl dX8_digest_127 ?_
    refine EV.lstore_n 129 rfl 1 [some (.ref v0), some (.long ((v1 * 31) + (Int32.toInt64 (gi σ t6 j10)))), none, some (.int v3), none] rfl (by decide) rfl dX8_digest_128 ?_
    refine EV.iinc 132 rfl [some (.ref v0), some (.long ((v1 * 31) + (Int32.toInt64 (gi σ t6 j10)))), none, some (.int (v3 + 1)), none] (v := 1) (by decide) (by decide) rfl rfl dX8_digest_129 ?_
    refine EV.goto 106 (by decide) dX8_digest_132 ?_
    exact h
