/-! THE LAW's own segments (printed by wip/gen/mklaw.py). -/
abbrev ML_law : MI := (yL_law, cL_law, 21, (some .boolean), [])
theorem gL_law_0 {Γ : Gm} {d : Nat} {σ : AH} {Q : Oc → AH → Prop} {v0 : Nat} (h : ∀ (q1 : Nat) (σ2 : AH), q1 = lo Γ + hc σ → σ2 = mk σ q1 6 17 → CV Γ d MX8_init [.ref q1] σ2 (fun σ4 => ∀ (q6 : Nat) (σ7 : AH), q6 = lo Γ + hc σ4 → σ7 = mk σ4 q6 22 16 → ∀ (q9 : Nat) (σ10 : AH), q9 = lo Γ + hc σ7 → σ10 = mk σ7 q9 23 16 → EV Γ ML_law d 24 [some (.ref v0), some (.ref q1), some (.ref q6), some (.ref q9), some (.int 3), some (.int 0), none, none, none, none, none, none, none, none, none, none, none, none, none, none, none] [] σ10 Q) (fun _ _ => False)) : EV Γ ML_law d 0 [some (.ref v0), none, none, none, none, none, none, none, none, none, none, none, none, none, none, none, none, none, none, none, none] [] σ Q := by
  refine EV.new 3 rfl nl_L_17 (n := 17) rfl dL_law_0 (EV.nq (fun q1 σ2 eq1 eσ2 => ?_))
  have h := h q1 σ2 eq1 eσ2
  have w3 : hs σ2 q1 = some (6, 17) := by rw [eσ2]; exact up_same _ _ _
  refine EV.dup 4 rfl dL_law_3 rfl ?_
  refine EV.cI rfl lk_L_49 rfl rfl (vs := []) (st := [.ref q1]) rfl rfl (Nat.le_of_ble_eq_true rfl) dL_law_4 h (fun  σ4 h => ?_)
  refine EV.astore_n 8 rfl 1 [some (.ref v0), some (.ref q1), none, none, none, none, none, none, none, none, none, none, none, none, none, none, none, none, none, none, none] rfl (by decide) rfl dL_law_7 ?_
  refine EV.bipush 10 rfl dL_law_8 (v := 16) (by decide) ?_
  refine EV.newI 12 rfl (n := 16) ac_int dL_law_10 (by decide) (Nat.le_of_ble_eq_true rfl) (EV.nq (fun q6 σ7 eq6 eσ7 => ?_))
  have h := h q6 σ7 eq6 eσ7
  have w8 : hs σ7 q6 = some (22, 16) := by rw [eσ7]; exact up_same _ _ _
  refine EV.astore_n 13 rfl 2 [some (.ref v0), some (.ref q1), some (.ref q6), none, none, none, none, none, none, none, none, none, none, none, none, none, none, none, none, none, none] rfl (by decide) rfl dL_law_12 ?_
  refine EV.bipush 15 rfl dL_law_13 (v := 16) (by decide) ?_
  refine EV.newJ 17 rfl (n := 16) ac_long dL_law_15 (by decide) (Nat.le_of_ble_eq_true rfl) (EV.nq (fun q9 σ10 eq9 eσ10 => ?_))
  have h := h q9 σ10 eq9 eσ10
  have w11 : hs σ10 q9 = some (23, 16) := by rw [eσ10]; exact up_same _ _ _
  refine EV.astore_n 18 rfl 3 [some (.ref v0), some (.ref q1), some (.ref q6), some (.ref q9), none, none, none, none, none, none, none, none, none, none, none, none, none, none, none, none, none] rfl (by decide) rfl dL_law_17 ?_
  refine EV.iconst 19 rfl dL_law_18 (v := 3) (by decide) ?_
  refine EV.istore 21 rfl [some (.ref v0), some (.ref q1), some (.ref q6), some (.ref q9), some (.int 3), none, none, none, none, none, none, none, none, none, none, none, none, none, none, none, none] (by decide) rfl dL_law_19 ?_
  refine EV.iconst 22 rfl dL_law_21 (v := 0) (by decide) ?_
  refine EV.istore 24 rfl [some (.ref v0), some (.ref q1), some (.ref q6), some (.ref q9), some (.int 3), some (.int 0), none, none, none, none, none, none, none, none, none, none, none, none, none, none, none] (by decide) rfl dL_law_22 ?_
  exact h
theorem eL_law {Γ : Gm} {d : Nat} {σ : AH} {Q : Oc → AH → Prop} {v0 : Nat} (h : ∀ (q1 : Nat) (σ2 : AH), q1 = lo Γ + hc σ → σ2 = mk σ q1 6 17 → CV Γ d MX8_init [.ref q1] σ2 (fun σ4 => ∀ (q6 : Nat) (σ7 : AH), q6 = lo Γ + hc σ4 → σ7 = mk σ4 q6 22 16 → ∀ (q9 : Nat) (σ10 : AH), q9 = lo Γ + hc σ7 → σ10 = mk σ7 q9 23 16 → EV Γ ML_law d 24 [some (.ref v0), some (.ref q1), some (.ref q6), some (.ref q9), some (.int 3), some (.int 0), none, none, none, none, none, none, none, none, none, none, none, none, none, none, none] [] σ10 Q) (fun _ _ => False)) : RUN Γ d ML_law [.ref v0] σ Q :=
  EV.enter [some (.ref v0), none, none, none, none, none, none, none, none, none, none, none, none, none, none, none, none, none, none, none, none] rfl (by decide +kernel) (Nat.le_of_ble_eq_true rfl) rfl (gL_law_0 h)
theorem gL_law_24 {Γ : Gm} {d : Nat} {σ : AH} {Q : Oc → AH → Prop} {v0 : Nat} {v1 : Nat} {v2 : Nat} {v3 : Nat} {v4 : Int32} {v5 : Int32} (h : ((3 ≤ v5 → EV Γ ML_law d 64 [some (.ref v0), some (.ref v1), some (.ref v2), some (.ref v3), some (.int v4), some (.int 0), none, none, none, none, none, none, none, none, none, none, none, none, none, none, none] [] σ Q) ∧ (¬ 3 ≤ v5 → CI Γ d ML_cell [.ref v0, .int v5] σ (fun r3 σ2 => CJ Γ d ML_choose [.int r3] σ2 (fun r5 σ4 => ∃ n7 : Nat, hs σ4 v3 = some (23, n7) ∧ ∃ j8 : Nat, IX v5 n7 j8 ∧ ∀ σ10 : AH, σ10 = setJ σ4 v3 j8 r5 → CI Γ d ML_make [.ref v1, .long (gj σ10 v3 j8)] σ10 (fun r14 σ13 => ∃ n16 : Nat, hs σ13 v2 = some (22, n16) ∧ ∃ j17 : Nat, IX v5 n16 j17 ∧ ∀ σ19 : AH, σ19 = setI σ13 v2 j17 r14 → EV Γ ML_law d 24 [some (.ref v0), some (.ref v1), some (.ref v2), some (.ref v3), some (.int v4), some (.int (v5 + 1)), none, none, none, none, none, none, none, none, none, none, none, none, none, none, none] [] σ19 Q) (fun _ _ => False)) (fun _ _ => False)) (fun _ _ => False)))) : EV Γ ML_law d 24 [some (.ref v0), some (.ref v1), some (.ref v2), some (.ref v3), some (.int v4), some (.int v5), none, none, none, none, none, none, none, none, none, none, none, none, none, none, none] [] σ Q := by
  refine EV.iload 26 rfl rfl dL_law_24 ?_
  refine EV.iconst 27 rfl dL_law_26 (v := 3) (by decide) ?_
  refine EV.icmp_ge 30 61 rfl (by decide) dL_law_27 (fun c1 => ?_) (fun c1 => ?_)
  · have h := h.1 c1
    refine EV.iconst 62 rfl dL_law_61 (v := 0) (by decide) ?_
    refine EV.istore 64 rfl [some (.ref v0), some (.ref v1), some (.ref v2), some (.ref v3), some (.int v4), some (.int 0), none, none, none, none, none, none, none, none, none, none, none, none, none, none, none] (by decide) rfl dL_law_62 ?_
    exact h
  · have h := h.2 c1
    refine EV.aload_n 31 rfl 3 rfl rfl dL_law_30 ?_
    refine EV.iload 33 rfl rfl dL_law_31 ?_
    refine EV.aload_n 34 rfl 0 rfl rfl dL_law_33 ?_
    refine EV.iload 36 rfl rfl dL_law_34 ?_
    refine EV.cS rfl lk_L_50 rfl (vs := [.ref v0, .int v5]) (st := [.int v5, .ref v3]) rfl rfl (Nat.le_of_ble_eq_true rfl) dL_law_36 h (fun v σ2 h => ?_)
    obtain ⟨r3, rfl, h⟩ := h
    show EV Γ ML_law d 39 [some (.ref v0), some (.ref v1), some (.ref v2), some (.ref v3), some (.int v4), some (.int v5), none, none, none, none, none, none, none, none, none, none, none, none, none, none, none] [.int r3, .int v5, .ref v3] σ2 Q
    refine EV.cS rfl lk_L_54 rfl (vs := [.int r3]) (st := [.int v5, .ref v3]) rfl rfl (Nat.le_of_ble_eq_true rfl) dL_law_39 h (fun v σ4 h => ?_)
    obtain ⟨r5, rfl, h⟩ := h
    show EV Γ ML_law d 42 [some (.ref v0), some (.ref v1), some (.ref v2), some (.ref v3), some (.int v4), some (.int v5), none, none, none, none, none, none, none, none, none, none, none, none, none, none, none] [.long r5, .int v5, .ref v3] σ4 Q
    obtain ⟨n7, w6, h⟩ := h
    obtain ⟨j8, x9, h⟩ := h
    refine EV.last 43 rfl dL_law_42 w6 x9 (EV.nm (fun σ10 e11 => ?_))
    have h := h σ10 e11
    have w12 := tr_hs (hs_setJ_of e11) w6
    refine EV.aload_n 44 rfl 2 rfl rfl dL_law_43 ?_
    refine EV.iload 46 rfl rfl dL_law_44 ?_
    refine EV.aload_n 47 rfl 1 rfl rfl dL_law_46 ?_
    refine EV.aload_n 48 rfl 3 rfl rfl dL_law_47 ?_
    refine EV.iload 50 rfl rfl dL_law_48 ?_
    refine EV.lald 51 rfl dL_law_50 w12 x9 ?_
    refine EV.cS rfl lk_L_58 rfl (vs := [.ref v1, .long (gj σ10 v3 j8)]) (st := [.int v5, .ref v2]) rfl rfl (Nat.le_of_ble_eq_true rfl) dL_law_51 h (fun v σ13 h => ?_)
    obtain ⟨r14, rfl, h⟩ := h
    show EV Γ ML_law d 54 [some (.ref v0), some (.ref v1), some (.ref v2), some (.ref v3), some (.int v4), some (.int v5), none, none, none, none, none, none, none, none, none, none, none, none, none, none, none] [.int r14, .int v5, .ref v2] σ13 Q
    obtain ⟨n16, w15, h⟩ := h
    obtain ⟨j17, x18, h⟩ := h
    refine EV.iast 55 rfl dL_law_54 w15 x18 (EV.nm (fun σ19 e20 => ?_))
    have h := h σ19 e20
    have w21 := tr_hs (hs_setI_of e20) w15
    refine EV.iinc 58 rfl [some (.ref v0), some (.ref v1), some (.ref v2), some (.ref v3), some (.int v4), some (.int (v5 + 1)), none, none, none, none, none, none, none, none, none, none, none, none, none, none, none] (v := 1) (by decide) (by decide) rfl rfl dL_law_55 ?_
    refine EV.goto 24 (by decide) dL_law_58 ?_
    exact h
theorem gL_law_64 {Γ : Gm} {d : Nat} {σ : AH} {Q : Oc → AH → Prop} {v0 : Nat} {v1 : Nat} {v2 : Nat} {v3 : Nat} {v4 : Int32} {v5 : Int32} (h : ((10 ≤ v5 → EV Γ ML_law d 660 [none, some (.ref v1), some (.ref v2), some (.ref v3), some (.int v4), some (.int 0), none, none, none, none, none, none, none, none, none, none, none, none, none, none, none] [] σ Q) ∧ (¬ 10 ≤ v5 → CI Γ d ML_cell [.ref v0, .int ((3 : Int32) + v5)] σ (fun r3 σ2 => CI Γ d ML_below [.int (r3 >>> 4), .int v4] σ2 (fun r5 σ4 => CI Γ d ML_below [.int (r3 >>> 10), .int v4] σ4 (fun r7 σ6 => ∃ n9 : Nat, hs σ6 v2 = some (22, n9) ∧ ∃ j10 : Nat, IX r5 n9 j10 ∧ ∃ j12 : Nat, IX r7 n9 j12 ∧ ∃ n15 : Nat, hs σ6 v3 = some (23, n15) ∧ ∃ j16 : Nat, IX r5 n15 j16 ∧ ∃ j18 : Nat, IX r7 n15 j18 ∧ CI Γ d ML_below [.int r3, .int 10] σ6 (fun r21 σ20 => ((r21 ≠ 4 → EV Γ ML_law d 153 [some (.ref v0), some (.ref v1), some (.ref v2), some (.ref v3), some (.int v4), some (.int v5), none, none, some (.int r7), some (.int (gi σ6 v2 j10)), some (.int (gi σ6 v2 j12)), some (.long (gj σ6 v3 j16)), none, some (.long (gj σ6 v3 j18)), none, some (.int r21), none, none, none, none, none] [] σ20 Q) ∧ (r21 = 4 → (((lg_cmp (gj σ6 v3 j18) 0) ≠ 0 → EV Γ ML_law d 153 [some (.ref v0), some (.ref v1), some (.ref v2), some (.ref v3), some (.int v4), some (.int v5), none, none, some (.int r7), some (.int (gi σ6 v2 j10)), some (.int (gi σ6 v2 j12)), some (.long (gj σ6 v3 j16)), none, some (.long (gj σ6 v3 j18)), none, some (.int r21), none, none, none, none, none] [] σ20 Q) ∧ ((lg_cmp (gj σ6 v3 j18) 0) = 0 → EV Γ ML_law d 153 [some (.ref v0), some (.ref v1), some (.ref v2), some (.ref v3), some (.int v4), some (.int v5), none, none, some (.int r7), some (.int (gi σ6 v2 j10)), some (.int (gi σ6 v2 j12)), some (.long (gj σ6 v3 j16)), none, some (.long (gj σ6 v3 j18)), none, some (.int 0), none, none, none, none, none] [] σ20 Q))))) (fun _ _ => False)) (fun _ _ => False)) (fun _ _ => False)) (fun _ _ => False)))) : EV Γ ML_law d 64 [some (.ref v0), some (.ref v1), some (.ref v2), some (.ref v3), some (.int v4), some (.int v5), none, none, none, none, none, none, none, none, none, none, none, none, none, none, none] [] σ Q := by
  refine EV.iload 66 rfl rfl dL_law_64 ?_
  refine EV.bipush 68 rfl dL_law_66 (v := 10) (by decide) ?_
  refine EV.icmp_ge 71 657 rfl (by decide) dL_law_68 (fun c1 => ?_) (fun c1 => ?_)
  · have h := h.1 c1
    refine EV.iconst 658 rfl dL_law_657 (v := 0) (by decide) ?_
    refine EV.istore 660 rfl [some (.ref v0), some (.ref v1), some (.ref v2), some (.ref v3), some (.int v4), some (.int 0), none, none, none, none, none, none, none, none, none, none, none, none, none, none, none] (by decide) rfl dL_law_658 ?_
    refine EV.mask [false, true, true, true, true, true, false, false, false, false, false, false, false, false, false, false, false, false, false, false, false] (L' := [none, some (.ref v1), some (.ref v2), some (.ref v3), some (.int v4), some (.int 0), none, none, none, none, none, none, none, none, none, none, none, none, none, none, none]) rfl ?_
    exact h
  · have h := h.2 c1
    refine EV.aload_n 72 rfl 0 rfl rfl dL_law_71 ?_
    refine EV.iconst 73 rfl dL_law_72 (v := 3) (by decide) ?_
    refine EV.iload 75 rfl rfl dL_law_73 ?_
    refine EV.iadd 76 rfl dL_law_75 ?_
    refine EV.cS rfl lk_L_50 rfl (vs := [.ref v0, .int ((3 : Int32) + v5)]) (st := []) rfl rfl (Nat.le_of_ble_eq_true rfl) dL_law_76 h (fun v σ2 h => ?_)
    obtain ⟨r3, rfl, h⟩ := h
    show EV Γ ML_law d 79 [some (.ref v0), some (.ref v1), some (.ref v2), some (.ref v3), some (.int v4), some (.int v5), none, none, none, none, none, none, none, none, none, none, none, none, none, none, none] [.int r3] σ2 Q
    refine EV.istore 81 rfl [some (.ref v0), some (.ref v1), some (.ref v2), some (.ref v3), some (.int v4), some (.int v5), some (.int r3), none, none, none, none, none, none, none, none, none, none, none, none, none, none] (by decide) rfl dL_law_79 ?_
    refine EV.iload 83 rfl rfl dL_law_81 ?_
    refine EV.iconst 84 rfl dL_law_83 (v := 4) (by decide) ?_
    refine EV.ishrC 85 rfl (by decide) dL_law_84 ?_
    refine EV.iload 87 rfl rfl dL_law_85 ?_
    refine EV.cS rfl lk_L_9 rfl (vs := [.int (r3 >>> 4), .int v4]) (st := []) rfl rfl (Nat.le_of_ble_eq_true rfl) dL_law_87 h (fun v σ4 h => ?_)
    obtain ⟨r5, rfl, h⟩ := h
    show EV Γ ML_law d 90 [some (.ref v0), some (.ref v1), some (.ref v2), some (.ref v3), some (.int v4), some (.int v5), some (.int r3), none, none, none, none, none, none, none, none, none, none, none, none, none, none] [.int r5] σ4 Q
    refine EV.istore 92 rfl [some (.ref v0), some (.ref v1), some (.ref v2), some (.ref v3), some (.int v4), some (.int v5), some (.int r3), some (.int r5), none, none, none, none, none, none, none, none, none, none, none, none, none] (by decide) rfl dL_law_90 ?_
    refine EV.iload 94 rfl rfl dL_law_92 ?_
    refine EV.bipush 96 rfl dL_law_94 (v := 10) (by decide) ?_
    refine EV.ishrC 97 rfl (by decide) dL_law_96 ?_
    refine EV.iload 99 rfl rfl dL_law_97 ?_
    refine EV.cS rfl lk_L_9 rfl (vs := [.int (r3 >>> 10), .int v4]) (st := []) rfl rfl (Nat.le_of_ble_eq_true rfl) dL_law_99 h (fun v σ6 h => ?_)
    obtain ⟨r7, rfl, h⟩ := h
    show EV Γ ML_law d 102 [some (.ref v0), some (.ref v1), some (.ref v2), some (.ref v3), some (.int v4), some (.int v5), some (.int r3), some (.int r5), none, none, none, none, none, none, none, none, none, none, none, none, none] [.int r7] σ6 Q
    refine EV.istore 104 rfl [some (.ref v0), some (.ref v1), some (.ref v2), some (.ref v3), some (.int v4), some (.int v5), some (.int r3), some (.int r5), some (.int r7), none, none, none, none, none, none, none, none, none, none, none, none] (by decide) rfl dL_law_102 ?_
    refine EV.aload_n 105 rfl 2 rfl rfl dL_law_104 ?_
    refine EV.iload 107 rfl rfl dL_law_105 ?_
    obtain ⟨n9, w8, h⟩ := h
    obtain ⟨j10, x11, h⟩ := h
    refine EV.iald 108 rfl dL_law_107 w8 x11 ?_
    refine EV.istore 110 rfl [some (.ref v0), some (.ref v1), some (.ref v2), some (.ref v3), some (.int v4), some (.int v5), some (.int r3), some (.int r5), some (.int r7), some (.int (gi σ6 v2 j10)), none, none, none, none, none, none, none, none, none, none, none] (by decide) rfl dL_law_108 ?_
    refine EV.aload_n 111 rfl 2 rfl rfl dL_law_110 ?_
    refine EV.iload 113 rfl rfl dL_law_111 ?_
    obtain ⟨j12, x13, h⟩ := h
    refine EV.iald 114 rfl dL_law_113 w8 x13 ?_
    refine EV.istore 116 rfl [some (.ref v0), some (.ref v1), some (.ref v2), some (.ref v3), some (.int v4), some (.int v5), some (.int r3), some (.int r5), some (.int r7), some (.int (gi σ6 v2 j10)), some (.int (gi σ6 v2 j12)), none, none, none, none, none, none, none, none, none, none] (by decide) rfl dL_law_114 ?_
    refine EV.aload_n 117 rfl 3 rfl rfl dL_law_116 ?_
    refine EV.iload 119 rfl rfl dL_law_117 ?_
    obtain ⟨n15, w14, h⟩ := h
    obtain ⟨j16, x17, h⟩ := h
    refine EV.lald 120 rfl dL_law_119 w14 x17 ?_
    refine EV.lstore 122 rfl [some (.ref v0), some (.ref v1), some (.ref v2), some (.ref v3), some (.int v4), some (.int v5), some (.int r3), some (.int r5), some (.int r7), some (.int (gi σ6 v2 j10)), some (.int (gi σ6 v2 j12)), some (.long (gj σ6 v3 j16)), none, none, none, none, none, none, none, none, none] (by decide) rfl dL_law_120 ?_
    refine EV.aload_n 123 rfl 3 rfl rfl dL_law_122 ?_
    refine EV.iload 125 rfl rfl dL_law_123 ?_
    obtain ⟨j18, x19, h⟩ := h
    refine EV.lald 126 rfl dL_law_125 w14 x19 ?_
    refine EV.lstore 128 rfl [some (.ref v0), some (.ref v1), some (.ref v2), some (.ref v3), some (.int v4), some (.int v5), some (.int r3), some (.int r5), some (.int r7), some (.int (gi σ6 v2 j10)), some (.int (gi σ6 v2 j12)), some (.long (gj σ6 v3 j16)), none, some (.long (gj σ6 v3 j18)), none, none, none, none, none, none, none] (by decide) rfl dL_law_126 ?_
    refine EV.iload 130 rfl rfl dL_law_128 ?_
    refine EV.bipush 132 rfl dL_law_130 (v := 10) (by decide) ?_
    refine EV.cS rfl lk_L_9 rfl (vs := [.int r3, .int 10]) (st := []) rfl rfl (Nat.le_of_ble_eq_true rfl) dL_law_132 h (fun v σ20 h => ?_)
    obtain ⟨r21, rfl, h⟩ := h
    show EV Γ ML_law d 135 [some (.ref v0), some (.ref v1), some (.ref v2), some (.ref v3), some (.int v4), some (.int v5), some (.int r3), some (.int r5), some (.int r7), some (.int (gi σ6 v2 j10)), some (.int (gi σ6 v2 j12)), some (.long (gj σ6 v3 j16)), none, some (.long (gj σ6 v3 j18)), none, none, none, none, none, none, none] [.int r21] σ20 Q
    refine EV.istore 137 rfl [some (.ref v0), some (.ref v1), some (.ref v2), some (.ref v3), some (.int v4), some (.int v5), some (.int r3), some (.int r5), some (.int r7), some (.int (gi σ6 v2 j10)), some (.int (gi σ6 v2 j12)), some (.long (gj σ6 v3 j16)), none, some (.long (gj σ6 v3 j18)), none, some (.int r21), none, none, none, none, none] (by decide) rfl dL_law_135 ?_
    refine EV.iload 139 rfl rfl dL_law_137 ?_
    refine EV.iconst 140 rfl dL_law_139 (v := 4) (by decide) ?_
    refine EV.icmp_ne 143 153 rfl (by decide) dL_law_140 (fun c22 => ?_) (fun c22 => ?_)
    · have h := h.1 c22
      refine EV.mask [true, true, true, true, true, true, false, false, true, true, true, true, false, true, false, true, false, false, false, false, false] (L' := [some (.ref v0), some (.ref v1), some (.ref v2), some (.ref v3), some (.int v4), some (.int v5), none, none, some (.int r7), some (.int (gi σ6 v2 j10)), some (.int (gi σ6 v2 j12)), some (.long (gj σ6 v3 j16)), none, some (.long (gj σ6 v3 j18)), none, some (.int r21), none, none, none, none, none]) rfl ?_
      exact h
    · have h := h.2 c22
      refine EV.lload 145 rfl rfl dL_law_143 ?_
      refine EV.lconst 146 rfl dL_law_145 (v := 0) (by decide) ?_
      refine EV.lcmp 147 rfl dL_law_146 ?_
      refine EV.if_ne 150 153 rfl (by decide) dL_law_147 (fun c23 => ?_) (fun c23 => ?_)
      · have h := h.1 c23
        refine EV.mask [true, true, true, true, true, true, false, false, true, true, true, true, false, true, false, true, false, false, false, false, false] (L' := [some (.ref v0), some (.ref v1), some (.ref v2), some (.ref v3), some (.int v4), some (.int v5), none, none, some (.int r7), some (.int (gi σ6 v2 j10)), some (.int (gi σ6 v2 j12)), some (.long (gj σ6 v3 j16)), none, some (.long (gj σ6 v3 j18)), none, some (.int r21), none, none, none, none, none]) rfl ?_
        exact h
      · have h := h.2 c23
        refine EV.iconst 151 rfl dL_law_150 (v := 0) (by decide) ?_
        refine EV.istore 153 rfl [some (.ref v0), some (.ref v1), some (.ref v2), some (.ref v3), some (.int v4), some (.int v5), some (.int r3), some (.int r5), some (.int r7), some (.int (gi σ6 v2 j10)), some (.int (gi σ6 v2 j12)), some (.long (gj σ6 v3 j16)), none, some (.long (gj σ6 v3 j18)), none, some (.int 0), none, none, none, none, none] (by decide) rfl dL_law_151 ?_
        refine EV.mask [true, true, true, true, true, true, false, false, true, true, true, true, false, true, false, true, false, false, false, false, false] (L' := [some (.ref v0), some (.ref v1), some (.ref v2), some (.ref v3), some (.int v4), some (.int v5), none, none, some (.int r7), some (.int (gi σ6 v2 j10)), some (.int (gi σ6 v2 j12)), some (.long (gj σ6 v3 j16)), none, some (.long (gj σ6 v3 j18)), none, some (.int 0), none, none, none, none, none]) rfl ?_
        exact h
theorem gL_law_153 {Γ : Gm} {d : Nat} {σ : AH} {Q : Oc → AH → Prop} {v0 : Nat} {v1 : Nat} {v2 : Nat} {v3 : Nat} {v4 : Int32} {v5 : Int32} {v8 : Int32} {v9 : Int32} {v10 : Int32} {v11 : Int64} {v13 : Int64} {v15 : Int32} (h : ((v15 ≠ 0 → ((v15 ≠ 1 → ((v15 ≠ 2 → ((v15 ≠ 3 → ((v15 ≠ 4 → EV Γ ML_law d 231 [some (.ref v0), some (.ref v1), some (.ref v2), some (.ref v3), some (.int v4), some (.int v5), none, none, some (.int v8), some (.int v9), some (.int v10), some (.long v11), none, some (.long v13), none, some (.int v15), none, none, none, none, none] [.long 0] σ Q) ∧ (v15 = 4 → CJ Γ d ML_quotient [.long v11, .long v13] σ (fun r7 σ6 => EV Γ ML_law d 231 [some (.ref v0), some (.ref v1), some (.ref v2), some (.ref v3), some (.int v4), some (.int v5), none, none, some (.int v8), some (.int v9), some (.int v10), some (.long v11), none, some (.long v13), none, some (.int v15), none, none, none, none, none] [.long r7] σ6 Q) (fun _ _ => False)))) ∧ (v15 = 3 → CJ Γ d ML_join [.long v11, .long v13] σ (fun r9 σ8 => EV Γ ML_law d 231 [some (.ref v0), some (.ref v1), some (.ref v2), some (.ref v3), some (.int v4), some (.int v5), none, none, some (.int v8), some (.int v9), some (.int v10), some (.long v11), none, some (.long v13), none, some (.int v15), none, none, none, none, none] [.long r9] σ8 Q) (fun _ _ => False)))) ∧ (v15 = 2 → EV Γ ML_law d 231 [some (.ref v0), some (.ref v1), some (.ref v2), some (.ref v3), some (.int v4), some (.int v5), none, none, some (.int v8), some (.int v9), some (.int v10), some (.long v11), none, some (.long v13), none, some (.int v15), none, none, none, none, none] [.long (v11 &&& v13)] σ Q))) ∧ (v15 = 1 → EV Γ ML_law d 231 [some (.ref v0), some (.ref v1), some (.ref v2), some (.ref v3), some (.int v4), some (.int v5), none, none, some (.int v8), some (.int v9), some (.int v10), some (.long v11), none, some (.long v13), none, some (.int v15), none, none, none, none, none] [.long (v11 &&& (v13 ^^^ (-1)))] σ Q))) ∧ (v15 = 0 → EV Γ ML_law d 231 [some (.ref v0), some (.ref v1), some (.ref v2), some (.ref v3), some (.int v4), some (.int v5), none, none, some (.int v8), some (.int v9), some (.int v10), some (.long v11), none, some (.long v13), none, some (.int v15), none, none, none, none, none] [.long (v11 ||| v13)] σ Q))) : EV Γ ML_law d 153 [some (.ref v0), some (.ref v1), some (.ref v2), some (.ref v3), some (.int v4), some (.int v5), none, none, some (.int v8), some (.int v9), some (.int v10), some (.long v11), none, some (.long v13), none, some (.int v15), none, none, none, none, none] [] σ Q := by
  refine EV.iload 155 rfl rfl dL_law_153 ?_
  refine EV.if_ne 158 166 rfl (by decide) dL_law_155 (fun c1 => ?_) (fun c1 => ?_)
  · have h := h.1 c1
    refine EV.iload 168 rfl rfl dL_law_166 ?_
    refine EV.iconst 169 rfl dL_law_168 (v := 1) (by decide) ?_
    refine EV.icmp_ne 172 184 rfl (by decide) dL_law_169 (fun c2 => ?_) (fun c2 => ?_)
    · have h := h.1 c2
      refine EV.iload 186 rfl rfl dL_law_184 ?_
      refine EV.iconst 187 rfl dL_law_186 (v := 2) (by decide) ?_
      refine EV.icmp_ne 190 198 rfl (by decide) dL_law_187 (fun c3 => ?_) (fun c3 => ?_)
      · have h := h.1 c3
        refine EV.iload 200 rfl rfl dL_law_198 ?_
        refine EV.iconst 201 rfl dL_law_200 (v := 3) (by decide) ?_
        refine EV.icmp_ne 204 214 rfl (by decide) dL_law_201 (fun c4 => ?_) (fun c4 => ?_)
        · have h := h.1 c4
          refine EV.iload 216 rfl rfl dL_law_214 ?_
          refine EV.iconst 217 rfl dL_law_216 (v := 4) (by decide) ?_
          refine EV.icmp_ne 220 230 rfl (by decide) dL_law_217 (fun c5 => ?_) (fun c5 => ?_)
          · have h := h.1 c5
            refine EV.lconst 231 rfl dL_law_230 (v := 0) (by decide) ?_
            exact h
          · have h := h.2 c5
            refine EV.lload 222 rfl rfl dL_law_220 ?_
            refine EV.lload 224 rfl rfl dL_law_222 ?_
            refine EV.cS rfl lk_L_68 rfl (vs := [.long v11, .long v13]) (st := []) rfl rfl (Nat.le_of_ble_eq_true rfl) dL_law_224 h (fun v σ6 h => ?_)
            obtain ⟨r7, rfl, h⟩ := h
            show EV Γ ML_law d 227 [some (.ref v0), some (.ref v1), some (.ref v2), some (.ref v3), some (.int v4), some (.int v5), none, none, some (.int v8), some (.int v9), some (.int v10), some (.long v11), none, some (.long v13), none, some (.int v15), none, none, none, none, none] [.long r7] σ6 Q
            refine EV.goto 231 (by decide) dL_law_227 ?_
            exact h
        · have h := h.2 c4
          refine EV.lload 206 rfl rfl dL_law_204 ?_
          refine EV.lload 208 rfl rfl dL_law_206 ?_
          refine EV.cS rfl lk_L_64 rfl (vs := [.long v11, .long v13]) (st := []) rfl rfl (Nat.le_of_ble_eq_true rfl) dL_law_208 h (fun v σ8 h => ?_)
          obtain ⟨r9, rfl, h⟩ := h
          show EV Γ ML_law d 211 [some (.ref v0), some (.ref v1), some (.ref v2), some (.ref v3), some (.int v4), some (.int v5), none, none, some (.int v8), some (.int v9), some (.int v10), some (.long v11), none, some (.long v13), none, some (.int v15), none, none, none, none, none] [.long r9] σ8 Q
          refine EV.goto 231 (by decide) dL_law_211 ?_
          exact h
      · have h := h.2 c3
        refine EV.lload 192 rfl rfl dL_law_190 ?_
        refine EV.lload 194 rfl rfl dL_law_192 ?_
        refine EV.land 195 rfl dL_law_194 ?_
        refine EV.goto 231 (by decide) dL_law_195 ?_
        exact h
    · have h := h.2 c2
      refine EV.lload 174 rfl rfl dL_law_172 ?_
      refine EV.lload 176 rfl rfl dL_law_174 ?_
      refine EV.ldc2 179 rfl k_L_62 dL_law_176 ?_
      refine EV.lxor 180 rfl dL_law_179 ?_
      refine EV.land 181 rfl dL_law_180 ?_
      refine EV.goto 231 (by decide) dL_law_181 ?_
      exact h
  · have h := h.2 c1
    refine EV.lload 160 rfl rfl dL_law_158 ?_
    refine EV.lload 162 rfl rfl dL_law_160 ?_
    refine EV.lor 163 rfl dL_law_162 ?_
    refine EV.goto 231 (by decide) dL_law_163 ?_
    exact h
theorem gL_law_231 {Γ : Gm} {d : Nat} {σ : AH} {Q : Oc → AH → Prop} {v0 : Nat} {v1 : Nat} {v2 : Nat} {v3 : Nat} {v4 : Int32} {v5 : Int32} {v8 : Int32} {v9 : Int32} {v10 : Int32} {v11 : Int64} {v13 : Int64} {v15 : Int32} {s0 : Int64} (h : ((v15 ≠ 5 → EV Γ ML_law d 264 [some (.ref v0), some (.ref v1), some (.ref v2), some (.ref v3), some (.int v4), some (.int v5), none, none, some (.int v8), some (.int v9), some (.int v10), some (.long v11), none, none, none, some (.int v15), some (.long s0), none, none, none, none] [] σ Q) ∧ (v15 = 5 → CJ Γ d ML_quotient [.long v11, .long (v13 ||| 1)] σ (fun r3 σ2 => CJ Γ d ML_join [.long (v13 ||| 1), .long r3] σ2 (fun r5 σ4 => EV Γ ML_law d 264 [some (.ref v0), some (.ref v1), some (.ref v2), some (.ref v3), some (.int v4), some (.int v5), none, none, some (.int v8), some (.int v9), some (.int v10), some (.long v11), none, none, none, some (.int v15), some (.long (v11 &&& (r5 ^^^ (-1)))), none, none, none, none] [] σ4 Q) (fun _ _ => False)) (fun _ _ => False)))) : EV Γ ML_law d 231 [some (.ref v0), some (.ref v1), some (.ref v2), some (.ref v3), some (.int v4), some (.int v5), none, none, some (.int v8), some (.int v9), some (.int v10), some (.long v11), none, some (.long v13), none, some (.int v15), none, none, none, none, none] [.long s0] σ Q := by
  refine EV.lstore 233 rfl [some (.ref v0), some (.ref v1), some (.ref v2), some (.ref v3), some (.int v4), some (.int v5), none, none, some (.int v8), some (.int v9), some (.int v10), some (.long v11), none, some (.long v13), none, some (.int v15), some (.long s0), none, none, none, none] (by decide) rfl dL_law_231 ?_
  refine EV.iload 235 rfl rfl dL_law_233 ?_
  refine EV.iconst 236 rfl dL_law_235 (v := 5) (by decide) ?_
  refine EV.icmp_ne 239 264 rfl (by decide) dL_law_236 (fun c1 => ?_) (fun c1 => ?_)
  · have h := h.1 c1
    refine EV.mask [true, true, true, true, true, true, false, false, true, true, true, true, false, false, false, true, true, false, false, false, false] (L' := [some (.ref v0), some (.ref v1), some (.ref v2), some (.ref v3), some (.int v4), some (.int v5), none, none, some (.int v8), some (.int v9), some (.int v10), some (.long v11), none, none, none, some (.int v15), some (.long s0), none, none, none, none]) rfl ?_
    exact h
  · have h := h.2 c1
    refine EV.lload 241 rfl rfl dL_law_239 ?_
    refine EV.lload 243 rfl rfl dL_law_241 ?_
    refine EV.lconst 244 rfl dL_law_243 (v := 1) (by decide) ?_
    refine EV.lor 245 rfl dL_law_244 ?_
    refine EV.lload 247 rfl rfl dL_law_245 ?_
    refine EV.lload 249 rfl rfl dL_law_247 ?_
    refine EV.lconst 250 rfl dL_law_249 (v := 1) (by decide) ?_
    refine EV.lor 251 rfl dL_law_250 ?_
    refine EV.cS rfl lk_L_68 rfl (vs := [.long v11, .long (v13 ||| 1)]) (st := [.long (v13 ||| 1), .long v11]) rfl rfl (Nat.le_of_ble_eq_true rfl) dL_law_251 h (fun v σ2 h => ?_)
    obtain ⟨r3, rfl, h⟩ := h
    show EV Γ ML_law d 254 [some (.ref v0), some (.ref v1), some (.ref v2), some (.ref v3), some (.int v4), some (.int v5), none, none, some (.int v8), some (.int v9), some (.int v10), some (.long v11), none, some (.long v13), none, some (.int v15), some (.long s0), none, none, none, none] [.long r3, .long (v13 ||| 1), .long v11] σ2 Q
    refine EV.cS rfl lk_L_64 rfl (vs := [.long (v13 ||| 1), .long r3]) (st := [.long v11]) rfl rfl (Nat.le_of_ble_eq_true rfl) dL_law_254 h (fun v σ4 h => ?_)
    obtain ⟨r5, rfl, h⟩ := h
    show EV Γ ML_law d 257 [some (.ref v0), some (.ref v1), some (.ref v2), some (.ref v3), some (.int v4), some (.int v5), none, none, some (.int v8), some (.int v9), some (.int v10), some (.long v11), none, some (.long v13), none, some (.int v15), some (.long s0), none, none, none, none] [.long r5, .long v11] σ4 Q
    refine EV.ldc2 260 rfl k_L_62 dL_law_257 ?_
    refine EV.lxor 261 rfl dL_law_260 ?_
    refine EV.land 262 rfl dL_law_261 ?_
    refine EV.lstore 264 rfl [some (.ref v0), some (.ref v1), some (.ref v2), some (.ref v3), some (.int v4), some (.int v5), none, none, some (.int v8), some (.int v9), some (.int v10), some (.long v11), none, some (.long v13), none, some (.int v15), some (.long (v11 &&& (r5 ^^^ (-1)))), none, none, none, none] (by decide) rfl dL_law_262 ?_
    refine EV.mask [true, true, true, true, true, true, false, false, true, true, true, true, false, false, false, true, true, false, false, false, false] (L' := [some (.ref v0), some (.ref v1), some (.ref v2), some (.ref v3), some (.int v4), some (.int v5), none, none, some (.int v8), some (.int v9), some (.int v10), some (.long v11), none, none, none, some (.int v15), some (.long (v11 &&& (r5 ^^^ (-1)))), none, none, none, none]) rfl ?_
    exact h
theorem gL_law_264 {Γ : Gm} {d : Nat} {σ : AH} {Q : Oc → AH → Prop} {v0 : Nat} {v1 : Nat} {v2 : Nat} {v3 : Nat} {v4 : Int32} {v5 : Int32} {v8 : Int32} {v9 : Int32} {v10 : Int32} {v11 : Int64} {v15 : Int32} {v16 : Int64} (h : ((v15 = 6 → EV Γ ML_law d 278 [some (.ref v0), some (.ref v1), some (.ref v2), some (.ref v3), some (.int v4), some (.int v5), none, none, some (.int v8), some (.int v9), some (.int v10), some (.long v11), none, none, none, some (.int v15), none, none, none, none, none] [] σ Q) ∧ (¬ v15 = 6 → ((v15 ≠ 7 → EV Γ ML_law d 297 [some (.ref v0), some (.ref v1), some (.ref v2), some (.ref v3), some (.int v4), some (.int v5), none, none, some (.int v8), some (.int v9), some (.int v10), some (.long v11), none, none, none, some (.int v15), some (.long v16), none, none, none, none] [] σ Q) ∧ (v15 = 7 → EV Γ ML_law d 278 [some (.ref v0), some (.ref v1), some (.ref v2), some (.ref v3), some (.int v4), some (.int v5), none, none, some (.int v8), some (.int v9), some (.int v10), some (.long v11), none, none, none, some (.int v15), none, none, none, none, none] [] σ Q))))) : EV Γ ML_law d 264 [some (.ref v0), some (.ref v1), some (.ref v2), some (.ref v3), some (.int v4), some (.int v5), none, none, some (.int v8), some (.int v9), some (.int v10), some (.long v11), none, none, none, some (.int v15), some (.long v16), none, none, none, none] [] σ Q := by
  refine EV.iload 266 rfl rfl dL_law_264 ?_
  refine EV.bipush 268 rfl dL_law_266 (v := 6) (by decide) ?_
  refine EV.icmp_eq 271 278 rfl (by decide) dL_law_268 (fun c1 => ?_) (fun c1 => ?_)
  · have h := h.1 c1
    refine EV.mask [true, true, true, true, true, true, false, false, true, true, true, true, false, false, false, true, false, false, false, false, false] (L' := [some (.ref v0), some (.ref v1), some (.ref v2), some (.ref v3), some (.int v4), some (.int v5), none, none, some (.int v8), some (.int v9), some (.int v10), some (.long v11), none, none, none, some (.int v15), none, none, none, none, none]) rfl ?_
    exact h
  · have h := h.2 c1
    refine EV.iload 273 rfl rfl dL_law_271 ?_
    refine EV.bipush 275 rfl dL_law_273 (v := 7) (by decide) ?_
    refine EV.icmp_ne 278 297 rfl (by decide) dL_law_275 (fun c2 => ?_) (fun c2 => ?_)
    · have h := h.1 c2
      exact h
    · have h := h.2 c2
      refine EV.mask [true, true, true, true, true, true, false, false, true, true, true, true, false, false, false, true, false, false, false, false, false] (L' := [some (.ref v0), some (.ref v1), some (.ref v2), some (.ref v3), some (.int v4), some (.int v5), none, none, some (.int v8), some (.int v9), some (.int v10), some (.long v11), none, none, none, some (.int v15), none, none, none, none, none]) rfl ?_
      exact h
theorem gL_law_278 {Γ : Gm} {d : Nat} {σ : AH} {Q : Oc → AH → Prop} {v0 : Nat} {v1 : Nat} {v2 : Nat} {v3 : Nat} {v4 : Int32} {v5 : Int32} {v8 : Int32} {v9 : Int32} {v10 : Int32} {v11 : Int64} {v15 : Int32} (h : ((v15 ≠ 6 → EV Γ ML_law d 292 [some (.ref v0), some (.ref v1), some (.ref v2), some (.ref v3), some (.int v4), some (.int v5), none, none, some (.int v8), some (.int v9), some (.int v10), some (.long v11), none, none, none, some (.int v15), none, none, none, none, none] [.int 0, .long v11] σ Q) ∧ (v15 = 6 → EV Γ ML_law d 292 [some (.ref v0), some (.ref v1), some (.ref v2), some (.ref v3), some (.int v4), some (.int v5), none, none, some (.int v8), some (.int v9), some (.int v10), some (.long v11), none, none, none, some (.int v15), none, none, none, none, none] [.int 1, .long v11] σ Q))) : EV Γ ML_law d 278 [some (.ref v0), some (.ref v1), some (.ref v2), some (.ref v3), some (.int v4), some (.int v5), none, none, some (.int v8), some (.int v9), some (.int v10), some (.long v11), none, none, none, some (.int v15), none, none, none, none, none] [] σ Q := by
  refine EV.lload 280 rfl rfl dL_law_278 ?_
  refine EV.iload 282 rfl rfl dL_law_280 ?_
  refine EV.bipush 284 rfl dL_law_282 (v := 6) (by decide) ?_
  refine EV.icmp_ne 287 291 rfl (by decide) dL_law_284 (fun c1 => ?_) (fun c1 => ?_)
  · have h := h.1 c1
    refine EV.iconst 292 rfl dL_law_291 (v := 0) (by decide) ?_
    exact h
  · have h := h.2 c1
    refine EV.iconst 288 rfl dL_law_287 (v := 1) (by decide) ?_
    refine EV.goto 292 (by decide) dL_law_288 ?_
    exact h
theorem gL_law_292 {Γ : Gm} {d : Nat} {σ : AH} {Q : Oc → AH → Prop} {v0 : Nat} {v1 : Nat} {v2 : Nat} {v3 : Nat} {v4 : Int32} {v5 : Int32} {v8 : Int32} {v9 : Int32} {v10 : Int32} {v11 : Int64} {v15 : Int32} {s0 : Int32} {s1 : Int64} (h : CJ Γ d ML_extreme [.long s1, .int s0] σ (fun r2 σ1 => EV Γ ML_law d 297 [some (.ref v0), some (.ref v1), some (.ref v2), some (.ref v3), some (.int v4), some (.int v5), none, none, some (.int v8), some (.int v9), some (.int v10), some (.long v11), none, none, none, some (.int v15), some (.long r2), none, none, none, none] [] σ1 Q) (fun _ _ => False)) : EV Γ ML_law d 292 [some (.ref v0), some (.ref v1), some (.ref v2), some (.ref v3), some (.int v4), some (.int v5), none, none, some (.int v8), some (.int v9), some (.int v10), some (.long v11), none, none, none, some (.int v15), none, none, none, none, none] [.int s0, .long s1] σ Q := by
  refine EV.cS rfl lk_L_45 rfl (vs := [.long s1, .int s0]) (st := []) rfl rfl (Nat.le_of_ble_eq_true rfl) dL_law_292 h (fun v σ1 h => ?_)
  obtain ⟨r2, rfl, h⟩ := h
  show EV Γ ML_law d 295 [some (.ref v0), some (.ref v1), some (.ref v2), some (.ref v3), some (.int v4), some (.int v5), none, none, some (.int v8), some (.int v9), some (.int v10), some (.long v11), none, none, none, some (.int v15), none, none, none, none, none] [.long r2] σ1 Q
  refine EV.lstore 297 rfl [some (.ref v0), some (.ref v1), some (.ref v2), some (.ref v3), some (.int v4), some (.int v5), none, none, some (.int v8), some (.int v9), some (.int v10), some (.long v11), none, none, none, some (.int v15), some (.long r2), none, none, none, none] (by decide) rfl dL_law_295 ?_
  exact h
theorem gL_law_297 {Γ : Gm} {d : Nat} {σ : AH} {Q : Oc → AH → Prop} {v0 : Nat} {v1 : Nat} {v2 : Nat} {v3 : Nat} {v4 : Int32} {v5 : Int32} {v8 : Int32} {v9 : Int32} {v10 : Int32} {v11 : Int64} {v15 : Int32} {v16 : Int64} (h : ((v15 ≤ 7 → EV Γ ML_law d 327 [some (.ref v0), some (.ref v1), some (.ref v2), some (.ref v3), some (.int v4), some (.int v5), none, none, some (.int v8), some (.int v9), some (.int v10), none, none, none, none, some (.int v15), some (.long v16), none, none, none, none] [] σ Q) ∧ (¬ v15 ≤ 7 → ((v15 ≠ 8 → EV Γ ML_law d 322 [some (.ref v0), some (.ref v1), some (.ref v2), some (.ref v3), some (.int v4), some (.int v5), none, none, some (.int v8), some (.int v9), some (.int v10), none, none, none, none, some (.int v15), none, none, none, none, none] [.long (v11 &&& (-2))] σ Q) ∧ (v15 = 8 → EV Γ ML_law d 322 [some (.ref v0), some (.ref v1), some (.ref v2), some (.ref v3), some (.int v4), some (.int v5), none, none, some (.int v8), some (.int v9), some (.int v10), none, none, none, none, some (.int v15), none, none, none, none, none] [.long v11] σ Q))))) : EV Γ ML_law d 297 [some (.ref v0), some (.ref v1), some (.ref v2), some (.ref v3), some (.int v4), some (.int v5), none, none, some (.int v8), some (.int v9), some (.int v10), some (.long v11), none, none, none, some (.int v15), some (.long v16), none, none, none, none] [] σ Q := by
  refine EV.iload 299 rfl rfl dL_law_297 ?_
  refine EV.bipush 301 rfl dL_law_299 (v := 7) (by decide) ?_
  refine EV.icmp_le 304 327 rfl (by decide) dL_law_301 (fun c1 => ?_) (fun c1 => ?_)
  · have h := h.1 c1
    refine EV.mask [true, true, true, true, true, true, false, false, true, true, true, false, false, false, false, true, true, false, false, false, false] (L' := [some (.ref v0), some (.ref v1), some (.ref v2), some (.ref v3), some (.int v4), some (.int v5), none, none, some (.int v8), some (.int v9), some (.int v10), none, none, none, none, some (.int v15), some (.long v16), none, none, none, none]) rfl ?_
    exact h
  · have h := h.2 c1
    refine EV.iload 306 rfl rfl dL_law_304 ?_
    refine EV.bipush 308 rfl dL_law_306 (v := 8) (by decide) ?_
    refine EV.icmp_ne 311 316 rfl (by decide) dL_law_308 (fun c2 => ?_) (fun c2 => ?_)
    · have h := h.1 c2
      refine EV.lload 318 rfl rfl dL_law_316 ?_
      refine EV.ldc2 321 rfl k_L_71 dL_law_318 ?_
      refine EV.land 322 rfl dL_law_321 ?_
      refine EV.mask [true, true, true, true, true, true, false, false, true, true, true, false, false, false, false, true, false, false, false, false, false] (L' := [some (.ref v0), some (.ref v1), some (.ref v2), some (.ref v3), some (.int v4), some (.int v5), none, none, some (.int v8), some (.int v9), some (.int v10), none, none, none, none, some (.int v15), none, none, none, none, none]) rfl ?_
      exact h
    · have h := h.2 c2
      refine EV.lload 313 rfl rfl dL_law_311 ?_
      refine EV.goto 322 (by decide) dL_law_313 ?_
      refine EV.mask [true, true, true, true, true, true, false, false, true, true, true, false, false, false, false, true, false, false, false, false, false] (L' := [some (.ref v0), some (.ref v1), some (.ref v2), some (.ref v3), some (.int v4), some (.int v5), none, none, some (.int v8), some (.int v9), some (.int v10), none, none, none, none, some (.int v15), none, none, none, none, none]) rfl ?_
      exact h
theorem gL_law_322 {Γ : Gm} {d : Nat} {σ : AH} {Q : Oc → AH → Prop} {v0 : Nat} {v1 : Nat} {v2 : Nat} {v3 : Nat} {v4 : Int32} {v5 : Int32} {v8 : Int32} {v9 : Int32} {v10 : Int32} {v15 : Int32} {s0 : Int64} (h : CJ Γ d ML_hitting [.long s0] σ (fun r2 σ1 => EV Γ ML_law d 327 [some (.ref v0), some (.ref v1), some (.ref v2), some (.ref v3), some (.int v4), some (.int v5), none, none, some (.int v8), some (.int v9), some (.int v10), none, none, none, none, some (.int v15), some (.long r2), none, none, none, none] [] σ1 Q) (fun _ _ => False)) : EV Γ ML_law d 322 [some (.ref v0), some (.ref v1), some (.ref v2), some (.ref v3), some (.int v4), some (.int v5), none, none, some (.int v8), some (.int v9), some (.int v10), none, none, none, none, some (.int v15), none, none, none, none, none] [.long s0] σ Q := by
  refine EV.cS rfl lk_L_73 rfl (vs := [.long s0]) (st := []) rfl rfl (Nat.le_of_ble_eq_true rfl) dL_law_322 h (fun v σ1 h => ?_)
  obtain ⟨r2, rfl, h⟩ := h
  show EV Γ ML_law d 325 [some (.ref v0), some (.ref v1), some (.ref v2), some (.ref v3), some (.int v4), some (.int v5), none, none, some (.int v8), some (.int v9), some (.int v10), none, none, none, none, some (.int v15), none, none, none, none, none] [.long r2] σ1 Q
  refine EV.lstore 327 rfl [some (.ref v0), some (.ref v1), some (.ref v2), some (.ref v3), some (.int v4), some (.int v5), none, none, some (.int v8), some (.int v9), some (.int v10), none, none, none, none, some (.int v15), some (.long r2), none, none, none, none] (by decide) rfl dL_law_325 ?_
  exact h
theorem gL_law_327 {Γ : Gm} {d : Nat} {σ : AH} {Q : Oc → AH → Prop} {v0 : Nat} {v1 : Nat} {v2 : Nat} {v3 : Nat} {v4 : Int32} {v5 : Int32} {v8 : Int32} {v9 : Int32} {v10 : Int32} {v15 : Int32} {v16 : Int64} (h : ((v15 ≠ 5 → EV Γ ML_law d 346 [some (.ref v0), some (.ref v1), some (.ref v2), some (.ref v3), some (.int v4), some (.int v5), none, none, some (.int v8), some (.int v9), some (.int v10), none, none, none, none, some (.int v15), some (.long v16), none, none, none, none] [] σ Q) ∧ (v15 = 5 → hs σ v1 = some (6, 17) ∧ CI Γ d MX8_single [.ref v1, .int 0] σ (fun r3 σ2 => hs σ2 v1 = some (6, 17) ∧ CI Γ d MX8_union [.ref v1, .int v10, .int r3] σ2 (fun r6 σ5 => EV Γ ML_law d 346 [some (.ref v0), some (.ref v1), some (.ref v2), some (.ref v3), some (.int v4), some (.int v5), none, none, some (.int v8), some (.int v9), some (.int r6), none, none, none, none, some (.int v15), some (.long v16), none, none, none, none] [] σ5 Q) (fun E σ5 => Q (.inr E) σ5)) (fun E σ2 => Q (.inr E) σ2)))) : EV Γ ML_law d 327 [some (.ref v0), some (.ref v1), some (.ref v2), some (.ref v3), some (.int v4), some (.int v5), none, none, some (.int v8), some (.int v9), some (.int v10), none, none, none, none, some (.int v15), some (.long v16), none, none, none, none] [] σ Q := by
  refine EV.iload 329 rfl rfl dL_law_327 ?_
  refine EV.iconst 330 rfl dL_law_329 (v := 5) (by decide) ?_
  refine EV.icmp_ne 333 346 rfl (by decide) dL_law_330 (fun c1 => ?_) (fun c1 => ?_)
  · have h := h.1 c1
    exact h
  · have h := h.2 c1
    refine EV.aload_n 334 rfl 1 rfl rfl dL_law_333 ?_
    refine EV.iload 336 rfl rfl dL_law_334 ?_
    refine EV.aload_n 337 rfl 1 rfl rfl dL_law_336 ?_
    refine EV.iconst 338 rfl dL_law_337 (v := 0) (by decide) ?_
    obtain ⟨w4, h⟩ := h
    refine EV.cV rfl rfl lk_L_25 rfl (vs := [.int 0]) (st := [.int v10, .ref v1]) rfl rfl (Nat.le_of_ble_eq_true rfl) dL_law_338 w4 h (fun v σ2 h => ?_)
    obtain ⟨r3, rfl, h⟩ := h
    show EV Γ ML_law d 341 [some (.ref v0), some (.ref v1), some (.ref v2), some (.ref v3), some (.int v4), some (.int v5), none, none, some (.int v8), some (.int v9), some (.int v10), none, none, none, none, some (.int v15), some (.long v16), none, none, none, none] [.int r3, .int v10, .ref v1] σ2 Q
    obtain ⟨w7, h⟩ := h
    refine EV.cV rfl rfl lk_L_29 rfl (vs := [.int v10, .int r3]) (st := []) rfl rfl (Nat.le_of_ble_eq_true rfl) dL_law_341 w7 h (fun v σ5 h => ?_)
    obtain ⟨r6, rfl, h⟩ := h
    show EV Γ ML_law d 344 [some (.ref v0), some (.ref v1), some (.ref v2), some (.ref v3), some (.int v4), some (.int v5), none, none, some (.int v8), some (.int v9), some (.int v10), none, none, none, none, some (.int v15), some (.long v16), none, none, none, none] [.int r6] σ5 Q
    refine EV.istore 346 rfl [some (.ref v0), some (.ref v1), some (.ref v2), some (.ref v3), some (.int v4), some (.int v5), none, none, some (.int v8), some (.int v9), some (.int r6), none, none, none, none, some (.int v15), some (.long v16), none, none, none, none] (by decide) rfl dL_law_344 ?_
    exact h
theorem gL_law_346 {Γ : Gm} {d : Nat} {σ : AH} {Q : Oc → AH → Prop} {v0 : Nat} {v1 : Nat} {v2 : Nat} {v3 : Nat} {v4 : Int32} {v5 : Int32} {v8 : Int32} {v9 : Int32} {v10 : Int32} {v15 : Int32} {v16 : Int64} (h : ((v15 ≠ 9 → EV Γ ML_law d 366 [some (.ref v0), some (.ref v1), some (.ref v2), some (.ref v3), some (.int v4), some (.int v5), none, none, some (.int v8), some (.int v9), some (.int v10), none, none, none, none, some (.int v15), some (.long v16), none, none, none, none] [] σ Q) ∧ (v15 = 9 → hs σ v1 = some (6, 17) ∧ CI Γ d MX8_single [.ref v1, .int 0] σ (fun r3 σ2 => hs σ2 v1 = some (6, 17) ∧ CI Γ d MX8_difference [.ref v1, .int v9, .int r3] σ2 (fun r6 σ5 => EV Γ ML_law d 366 [some (.ref v0), some (.ref v1), some (.ref v2), some (.ref v3), some (.int v4), some (.int v5), none, none, some (.int v8), some (.int r6), some (.int v10), none, none, none, none, some (.int v15), some (.long v16), none, none, none, none] [] σ5 Q) (fun E σ5 => Q (.inr E) σ5)) (fun E σ2 => Q (.inr E) σ2)))) : EV Γ ML_law d 346 [some (.ref v0), some (.ref v1), some (.ref v2), some (.ref v3), some (.int v4), some (.int v5), none, none, some (.int v8), some (.int v9), some (.int v10), none, none, none, none, some (.int v15), some (.long v16), none, none, none, none] [] σ Q := by
  refine EV.iload 348 rfl rfl dL_law_346 ?_
  refine EV.bipush 350 rfl dL_law_348 (v := 9) (by decide) ?_
  refine EV.icmp_ne 353 366 rfl (by decide) dL_law_350 (fun c1 => ?_) (fun c1 => ?_)
  · have h := h.1 c1
    exact h
  · have h := h.2 c1
    refine EV.aload_n 354 rfl 1 rfl rfl dL_law_353 ?_
    refine EV.iload 356 rfl rfl dL_law_354 ?_
    refine EV.aload_n 357 rfl 1 rfl rfl dL_law_356 ?_
    refine EV.iconst 358 rfl dL_law_357 (v := 0) (by decide) ?_
    obtain ⟨w4, h⟩ := h
    refine EV.cV rfl rfl lk_L_25 rfl (vs := [.int 0]) (st := [.int v9, .ref v1]) rfl rfl (Nat.le_of_ble_eq_true rfl) dL_law_358 w4 h (fun v σ2 h => ?_)
    obtain ⟨r3, rfl, h⟩ := h
    show EV Γ ML_law d 361 [some (.ref v0), some (.ref v1), some (.ref v2), some (.ref v3), some (.int v4), some (.int v5), none, none, some (.int v8), some (.int v9), some (.int v10), none, none, none, none, some (.int v15), some (.long v16), none, none, none, none] [.int r3, .int v9, .ref v1] σ2 Q
    obtain ⟨w7, h⟩ := h
    refine EV.cV rfl rfl lk_L_77 rfl (vs := [.int v9, .int r3]) (st := []) rfl rfl (Nat.le_of_ble_eq_true rfl) dL_law_361 w7 h (fun v σ5 h => ?_)
    obtain ⟨r6, rfl, h⟩ := h
    show EV Γ ML_law d 364 [some (.ref v0), some (.ref v1), some (.ref v2), some (.ref v3), some (.int v4), some (.int v5), none, none, some (.int v8), some (.int v9), some (.int v10), none, none, none, none, some (.int v15), some (.long v16), none, none, none, none] [.int r6] σ5 Q
    refine EV.istore 366 rfl [some (.ref v0), some (.ref v1), some (.ref v2), some (.ref v3), some (.int v4), some (.int v5), none, none, some (.int v8), some (.int r6), some (.int v10), none, none, none, none, some (.int v15), some (.long v16), none, none, none, none] (by decide) rfl dL_law_364 ?_
    exact h
theorem gL_law_366 {Γ : Gm} {d : Nat} {σ : AH} {Q : Oc → AH → Prop} {v0 : Nat} {v1 : Nat} {v2 : Nat} {v3 : Nat} {v4 : Int32} {v5 : Int32} {v8 : Int32} {v9 : Int32} {v10 : Int32} {v15 : Int32} {v16 : Int64} (h : ((v15 ≠ 0 → ((v15 ≠ 1 → ((v15 ≠ 2 → ((v15 ≠ 3 → ((v15 ≠ 4 → EV Γ ML_law d 451 [some (.ref v0), some (.ref v1), some (.ref v2), some (.ref v3), some (.int v4), some (.int v5), none, none, some (.int v8), some (.int v9), some (.int v10), none, none, none, none, some (.int v15), some (.long v16), none, none, none, none] [.int (-1)] σ Q) ∧ (v15 = 4 → hs σ v1 = some (6, 17) ∧ CI Γ d MX8_quotient [.ref v1, .int v9, .int v10] σ (fun r7 σ6 => EV Γ ML_law d 451 [some (.ref v0), some (.ref v1), some (.ref v2), some (.ref v3), some (.int v4), some (.int v5), none, none, some (.int v8), some (.int v9), some (.int v10), none, none, none, none, some (.int v15), some (.long v16), none, none, none, none] [.int r7] σ6 Q) (fun E σ6 => Q (.inr E) σ6)))) ∧ (v15 = 3 → hs σ v1 = some (6, 17) ∧ CI Γ d MX8_join [.ref v1, .int v9, .int v10] σ (fun r10 σ9 => EV Γ ML_law d 451 [some (.ref v0), some (.ref v1), some (.ref v2), some (.ref v3), some (.int v4), some (.int v5), none, none, some (.int v8), some (.int v9), some (.int v10), none, none, none, none, some (.int v15), some (.long v16), none, none, none, none] [.int r10] σ9 Q) (fun E σ9 => Q (.inr E) σ9)))) ∧ (v15 = 2 → hs σ v1 = some (6, 17) ∧ CI Γ d MX8_intersection [.ref v1, .int v9, .int v10] σ (fun r13 σ12 => EV Γ ML_law d 451 [some (.ref v0), some (.ref v1), some (.ref v2), some (.ref v3), some (.int v4), some (.int v5), none, none, some (.int v8), some (.int v9), some (.int v10), none, none, none, none, some (.int v15), some (.long v16), none, none, none, none] [.int r13] σ12 Q) (fun E σ12 => Q (.inr E) σ12)))) ∧ (v15 = 1 → hs σ v1 = some (6, 17) ∧ CI Γ d MX8_difference [.ref v1, .int v9, .int v10] σ (fun r16 σ15 => EV Γ ML_law d 451 [some (.ref v0), some (.ref v1), some (.ref v2), some (.ref v3), some (.int v4), some (.int v5), none, none, some (.int v8), some (.int v9), some (.int v10), none, none, none, none, some (.int v15), some (.long v16), none, none, none, none] [.int r16] σ15 Q) (fun E σ15 => Q (.inr E) σ15)))) ∧ (v15 = 0 → hs σ v1 = some (6, 17) ∧ CI Γ d MX8_union [.ref v1, .int v9, .int v10] σ (fun r19 σ18 => EV Γ ML_law d 451 [some (.ref v0), some (.ref v1), some (.ref v2), some (.ref v3), some (.int v4), some (.int v5), none, none, some (.int v8), some (.int v9), some (.int v10), none, none, none, none, some (.int v15), some (.long v16), none, none, none, none] [.int r19] σ18 Q) (fun E σ18 => Q (.inr E) σ18)))) : EV Γ ML_law d 366 [some (.ref v0), some (.ref v1), some (.ref v2), some (.ref v3), some (.int v4), some (.int v5), none, none, some (.int v8), some (.int v9), some (.int v10), none, none, none, none, some (.int v15), some (.long v16), none, none, none, none] [] σ Q := by
  refine EV.iload 368 rfl rfl dL_law_366 ?_
  refine EV.if_ne 371 382 rfl (by decide) dL_law_368 (fun c1 => ?_) (fun c1 => ?_)
  · have h := h.1 c1
    refine EV.iload 384 rfl rfl dL_law_382 ?_
    refine EV.iconst 385 rfl dL_law_384 (v := 1) (by decide) ?_
    refine EV.icmp_ne 388 399 rfl (by decide) dL_law_385 (fun c2 => ?_) (fun c2 => ?_)
    · have h := h.1 c2
      refine EV.iload 401 rfl rfl dL_law_399 ?_
      refine EV.iconst 402 rfl dL_law_401 (v := 2) (by decide) ?_
      refine EV.icmp_ne 405 416 rfl (by decide) dL_law_402 (fun c3 => ?_) (fun c3 => ?_)
      · have h := h.1 c3
        refine EV.iload 418 rfl rfl dL_law_416 ?_
        refine EV.iconst 419 rfl dL_law_418 (v := 3) (by decide) ?_
        refine EV.icmp_ne 422 433 rfl (by decide) dL_law_419 (fun c4 => ?_) (fun c4 => ?_)
        · have h := h.1 c4
          refine EV.iload 435 rfl rfl dL_law_433 ?_
          refine EV.iconst 436 rfl dL_law_435 (v := 4) (by decide) ?_
          refine EV.icmp_ne 439 450 rfl (by decide) dL_law_436 (fun c5 => ?_) (fun c5 => ?_)
          · have h := h.1 c5
            refine EV.iconst 451 rfl dL_law_450 (v := (-1)) (by decide) ?_
            exact h
          · have h := h.2 c5
            refine EV.aload_n 440 rfl 1 rfl rfl dL_law_439 ?_
            refine EV.iload 442 rfl rfl dL_law_440 ?_
            refine EV.iload 444 rfl rfl dL_law_442 ?_
            obtain ⟨w8, h⟩ := h
            refine EV.cV rfl rfl lk_L_85 rfl (vs := [.int v9, .int v10]) (st := []) rfl rfl (Nat.le_of_ble_eq_true rfl) dL_law_444 w8 h (fun v σ6 h => ?_)
            obtain ⟨r7, rfl, h⟩ := h
            show EV Γ ML_law d 447 [some (.ref v0), some (.ref v1), some (.ref v2), some (.ref v3), some (.int v4), some (.int v5), none, none, some (.int v8), some (.int v9), some (.int v10), none, none, none, none, some (.int v15), some (.long v16), none, none, none, none] [.int r7] σ6 Q
            refine EV.goto 451 (by decide) dL_law_447 ?_
            exact h
        · have h := h.2 c4
          refine EV.aload_n 423 rfl 1 rfl rfl dL_law_422 ?_
          refine EV.iload 425 rfl rfl dL_law_423 ?_
          refine EV.iload 427 rfl rfl dL_law_425 ?_
          obtain ⟨w11, h⟩ := h
          refine EV.cV rfl rfl lk_L_83 rfl (vs := [.int v9, .int v10]) (st := []) rfl rfl (Nat.le_of_ble_eq_true rfl) dL_law_427 w11 h (fun v σ9 h => ?_)
          obtain ⟨r10, rfl, h⟩ := h
          show EV Γ ML_law d 430 [some (.ref v0), some (.ref v1), some (.ref v2), some (.ref v3), some (.int v4), some (.int v5), none, none, some (.int v8), some (.int v9), some (.int v10), none, none, none, none, some (.int v15), some (.long v16), none, none, none, none] [.int r10] σ9 Q
          refine EV.goto 451 (by decide) dL_law_430 ?_
          exact h
      · have h := h.2 c3
        refine EV.aload_n 406 rfl 1 rfl rfl dL_law_405 ?_
        refine EV.iload 408 rfl rfl dL_law_406 ?_
        refine EV.iload 410 rfl rfl dL_law_408 ?_
        obtain ⟨w14, h⟩ := h
        refine EV.cV rfl rfl lk_L_80 rfl (vs := [.int v9, .int v10]) (st := []) rfl rfl (Nat.le_of_ble_eq_true rfl) dL_law_410 w14 h (fun v σ12 h => ?_)
        obtain ⟨r13, rfl, h⟩ := h
        show EV Γ ML_law d 413 [some (.ref v0), some (.ref v1), some (.ref v2), some (.ref v3), some (.int v4), some (.int v5), none, none, some (.int v8), some (.int v9), some (.int v10), none, none, none, none, some (.int v15), some (.long v16), none, none, none, none] [.int r13] σ12 Q
        refine EV.goto 451 (by decide) dL_law_413 ?_
        exact h
    · have h := h.2 c2
      refine EV.aload_n 389 rfl 1 rfl rfl dL_law_388 ?_
      refine EV.iload 391 rfl rfl dL_law_389 ?_
      refine EV.iload 393 rfl rfl dL_law_391 ?_
      obtain ⟨w17, h⟩ := h
      refine EV.cV rfl rfl lk_L_77 rfl (vs := [.int v9, .int v10]) (st := []) rfl rfl (Nat.le_of_ble_eq_true rfl) dL_law_393 w17 h (fun v σ15 h => ?_)
      obtain ⟨r16, rfl, h⟩ := h
      show EV Γ ML_law d 396 [some (.ref v0), some (.ref v1), some (.ref v2), some (.ref v3), some (.int v4), some (.int v5), none, none, some (.int v8), some (.int v9), some (.int v10), none, none, none, none, some (.int v15), some (.long v16), none, none, none, none] [.int r16] σ15 Q
      refine EV.goto 451 (by decide) dL_law_396 ?_
      exact h
  · have h := h.2 c1
    refine EV.aload_n 372 rfl 1 rfl rfl dL_law_371 ?_
    refine EV.iload 374 rfl rfl dL_law_372 ?_
    refine EV.iload 376 rfl rfl dL_law_374 ?_
    obtain ⟨w20, h⟩ := h
    refine EV.cV rfl rfl lk_L_29 rfl (vs := [.int v9, .int v10]) (st := []) rfl rfl (Nat.le_of_ble_eq_true rfl) dL_law_376 w20 h (fun v σ18 h => ?_)
    obtain ⟨r19, rfl, h⟩ := h
    show EV Γ ML_law d 379 [some (.ref v0), some (.ref v1), some (.ref v2), some (.ref v3), some (.int v4), some (.int v5), none, none, some (.int v8), some (.int v9), some (.int v10), none, none, none, none, some (.int v15), some (.long v16), none, none, none, none] [.int r19] σ18 Q
    refine EV.goto 451 (by decide) dL_law_379 ?_
    exact h
theorem gL_law_451 {Γ : Gm} {d : Nat} {σ : AH} {Q : Oc → AH → Prop} {v0 : Nat} {v1 : Nat} {v2 : Nat} {v3 : Nat} {v4 : Int32} {v5 : Int32} {v8 : Int32} {v9 : Int32} {v10 : Int32} {v15 : Int32} {v16 : Int64} {s0 : Int32} (h : ((v15 ≠ 5 → EV Γ ML_law d 469 [some (.ref v0), some (.ref v1), some (.ref v2), some (.ref v3), some (.int v4), some (.int v5), none, none, some (.int v8), some (.int v9), none, none, none, none, none, some (.int v15), some (.long v16), none, some (.int s0), none, none] [] σ Q) ∧ (v15 = 5 → hs σ v1 = some (6, 17) ∧ CI Γ d MX8_remainder [.ref v1, .int v9, .int v10] σ (fun r3 σ2 => EV Γ ML_law d 469 [some (.ref v0), some (.ref v1), some (.ref v2), some (.ref v3), some (.int v4), some (.int v5), none, none, some (.int v8), some (.int v9), none, none, none, none, none, some (.int v15), some (.long v16), none, some (.int r3), none, none] [] σ2 Q) (fun E σ2 => Q (.inr E) σ2)))) : EV Γ ML_law d 451 [some (.ref v0), some (.ref v1), some (.ref v2), some (.ref v3), some (.int v4), some (.int v5), none, none, some (.int v8), some (.int v9), some (.int v10), none, none, none, none, some (.int v15), some (.long v16), none, none, none, none] [.int s0] σ Q := by
  refine EV.istore 453 rfl [some (.ref v0), some (.ref v1), some (.ref v2), some (.ref v3), some (.int v4), some (.int v5), none, none, some (.int v8), some (.int v9), some (.int v10), none, none, none, none, some (.int v15), some (.long v16), none, some (.int s0), none, none] (by decide) rfl dL_law_451 ?_
  refine EV.iload 455 rfl rfl dL_law_453 ?_
  refine EV.iconst 456 rfl dL_law_455 (v := 5) (by decide) ?_
  refine EV.icmp_ne 459 469 rfl (by decide) dL_law_456 (fun c1 => ?_) (fun c1 => ?_)
  · have h := h.1 c1
    refine EV.mask [true, true, true, true, true, true, false, false, true, true, false, false, false, false, false, true, true, false, true, false, false] (L' := [some (.ref v0), some (.ref v1), some (.ref v2), some (.ref v3), some (.int v4), some (.int v5), none, none, some (.int v8), some (.int v9), none, none, none, none, none, some (.int v15), some (.long v16), none, some (.int s0), none, none]) rfl ?_
    exact h
  · have h := h.2 c1
    refine EV.aload_n 460 rfl 1 rfl rfl dL_law_459 ?_
    refine EV.iload 462 rfl rfl dL_law_460 ?_
    refine EV.iload 464 rfl rfl dL_law_462 ?_
    obtain ⟨w4, h⟩ := h
    refine EV.cV rfl rfl lk_L_87 rfl (vs := [.int v9, .int v10]) (st := []) rfl rfl (Nat.le_of_ble_eq_true rfl) dL_law_464 w4 h (fun v σ2 h => ?_)
    obtain ⟨r3, rfl, h⟩ := h
    show EV Γ ML_law d 467 [some (.ref v0), some (.ref v1), some (.ref v2), some (.ref v3), some (.int v4), some (.int v5), none, none, some (.int v8), some (.int v9), some (.int v10), none, none, none, none, some (.int v15), some (.long v16), none, some (.int s0), none, none] [.int r3] σ2 Q
    refine EV.istore 469 rfl [some (.ref v0), some (.ref v1), some (.ref v2), some (.ref v3), some (.int v4), some (.int v5), none, none, some (.int v8), some (.int v9), some (.int v10), none, none, none, none, some (.int v15), some (.long v16), none, some (.int r3), none, none] (by decide) rfl dL_law_467 ?_
    refine EV.mask [true, true, true, true, true, true, false, false, true, true, false, false, false, false, false, true, true, false, true, false, false] (L' := [some (.ref v0), some (.ref v1), some (.ref v2), some (.ref v3), some (.int v4), some (.int v5), none, none, some (.int v8), some (.int v9), none, none, none, none, none, some (.int v15), some (.long v16), none, some (.int r3), none, none]) rfl ?_
    exact h
theorem gL_law_469 {Γ : Gm} {d : Nat} {σ : AH} {Q : Oc → AH → Prop} {v0 : Nat} {v1 : Nat} {v2 : Nat} {v3 : Nat} {v4 : Int32} {v5 : Int32} {v8 : Int32} {v9 : Int32} {v15 : Int32} {v16 : Int64} {v18 : Int32} (h : ((v15 = 6 → EV Γ ML_law d 483 [some (.ref v0), some (.ref v1), some (.ref v2), some (.ref v3), some (.int v4), some (.int v5), none, none, some (.int v8), some (.int v9), none, none, none, none, none, some (.int v15), some (.long v16), none, none, none, none] [] σ Q) ∧ (¬ v15 = 6 → ((v15 ≠ 7 → EV Γ ML_law d 507 [some (.ref v0), some (.ref v1), some (.ref v2), some (.ref v3), some (.int v4), some (.int v5), none, none, some (.int v8), some (.int v9), none, none, none, none, none, some (.int v15), some (.long v16), none, some (.int v18), none, none] [] σ Q) ∧ (v15 = 7 → EV Γ ML_law d 483 [some (.ref v0), some (.ref v1), some (.ref v2), some (.ref v3), some (.int v4), some (.int v5), none, none, some (.int v8), some (.int v9), none, none, none, none, none, some (.int v15), some (.long v16), none, none, none, none] [] σ Q))))) : EV Γ ML_law d 469 [some (.ref v0), some (.ref v1), some (.ref v2), some (.ref v3), some (.int v4), some (.int v5), none, none, some (.int v8), some (.int v9), none, none, none, none, none, some (.int v15), some (.long v16), none, some (.int v18), none, none] [] σ Q := by
  refine EV.iload 471 rfl rfl dL_law_469 ?_
  refine EV.bipush 473 rfl dL_law_471 (v := 6) (by decide) ?_
  refine EV.icmp_eq 476 483 rfl (by decide) dL_law_473 (fun c1 => ?_) (fun c1 => ?_)
  · have h := h.1 c1
    refine EV.mask [true, true, true, true, true, true, false, false, true, true, false, false, false, false, false, true, true, false, false, false, false] (L' := [some (.ref v0), some (.ref v1), some (.ref v2), some (.ref v3), some (.int v4), some (.int v5), none, none, some (.int v8), some (.int v9), none, none, none, none, none, some (.int v15), some (.long v16), none, none, none, none]) rfl ?_
    exact h
  · have h := h.2 c1
    refine EV.iload 478 rfl rfl dL_law_476 ?_
    refine EV.bipush 480 rfl dL_law_478 (v := 7) (by decide) ?_
    refine EV.icmp_ne 483 507 rfl (by decide) dL_law_480 (fun c2 => ?_) (fun c2 => ?_)
    · have h := h.1 c2
      exact h
    · have h := h.2 c2
      refine EV.mask [true, true, true, true, true, true, false, false, true, true, false, false, false, false, false, true, true, false, false, false, false] (L' := [some (.ref v0), some (.ref v1), some (.ref v2), some (.ref v3), some (.int v4), some (.int v5), none, none, some (.int v8), some (.int v9), none, none, none, none, none, some (.int v15), some (.long v16), none, none, none, none]) rfl ?_
      exact h
theorem gL_law_483 {Γ : Gm} {d : Nat} {σ : AH} {Q : Oc → AH → Prop} {v0 : Nat} {v1 : Nat} {v2 : Nat} {v3 : Nat} {v4 : Int32} {v5 : Int32} {v8 : Int32} {v9 : Int32} {v15 : Int32} {v16 : Int64} (h : ((v15 ≠ 6 → hs σ v1 = some (6, 17) ∧ CI Γ d MX8_maximal [.ref v1, .int v9] σ (fun r3 σ2 => EV Γ ML_law d 507 [some (.ref v0), some (.ref v1), some (.ref v2), some (.ref v3), some (.int v4), some (.int v5), none, none, some (.int v8), some (.int v9), none, none, none, none, none, some (.int v15), some (.long v16), none, some (.int r3), none, none] [] σ2 Q) (fun E σ2 => Q (.inr E) σ2)) ∧ (v15 = 6 → hs σ v1 = some (6, 17) ∧ CI Γ d MX8_minimal [.ref v1, .int v9] σ (fun r6 σ5 => EV Γ ML_law d 507 [some (.ref v0), some (.ref v1), some (.ref v2), some (.ref v3), some (.int v4), some (.int v5), none, none, some (.int v8), some (.int v9), none, none, none, none, none, some (.int v15), some (.long v16), none, some (.int r6), none, none] [] σ5 Q) (fun E σ5 => Q (.inr E) σ5)))) : EV Γ ML_law d 483 [some (.ref v0), some (.ref v1), some (.ref v2), some (.ref v3), some (.int v4), some (.int v5), none, none, some (.int v8), some (.int v9), none, none, none, none, none, some (.int v15), some (.long v16), none, none, none, none] [] σ Q := by
  refine EV.iload 485 rfl rfl dL_law_483 ?_
  refine EV.bipush 487 rfl dL_law_485 (v := 6) (by decide) ?_
  refine EV.icmp_ne 490 499 rfl (by decide) dL_law_487 (fun c1 => ?_) (fun c1 => ?_)
  · have h := h.1 c1
    refine EV.aload_n 500 rfl 1 rfl rfl dL_law_499 ?_
    refine EV.iload 502 rfl rfl dL_law_500 ?_
    obtain ⟨w4, h⟩ := h
    refine EV.cV rfl rfl lk_L_93 rfl (vs := [.int v9]) (st := []) rfl rfl (Nat.le_of_ble_eq_true rfl) dL_law_502 w4 h (fun v σ2 h => ?_)
    obtain ⟨r3, rfl, h⟩ := h
    show EV Γ ML_law d 505 [some (.ref v0), some (.ref v1), some (.ref v2), some (.ref v3), some (.int v4), some (.int v5), none, none, some (.int v8), some (.int v9), none, none, none, none, none, some (.int v15), some (.long v16), none, none, none, none] [.int r3] σ2 Q
    refine EV.istore 507 rfl [some (.ref v0), some (.ref v1), some (.ref v2), some (.ref v3), some (.int v4), some (.int v5), none, none, some (.int v8), some (.int v9), none, none, none, none, none, some (.int v15), some (.long v16), none, some (.int r3), none, none] (by decide) rfl dL_law_505 ?_
    exact h
  · have h := h.2 c1
    refine EV.aload_n 491 rfl 1 rfl rfl dL_law_490 ?_
    refine EV.iload 493 rfl rfl dL_law_491 ?_
    obtain ⟨w7, h⟩ := h
    refine EV.cV rfl rfl lk_L_90 rfl (vs := [.int v9]) (st := []) rfl rfl (Nat.le_of_ble_eq_true rfl) dL_law_493 w7 h (fun v σ5 h => ?_)
    obtain ⟨r6, rfl, h⟩ := h
    show EV Γ ML_law d 496 [some (.ref v0), some (.ref v1), some (.ref v2), some (.ref v3), some (.int v4), some (.int v5), none, none, some (.int v8), some (.int v9), none, none, none, none, none, some (.int v15), some (.long v16), none, none, none, none] [.int r6] σ5 Q
    refine EV.goto 505 (by decide) dL_law_496 ?_
    refine EV.istore 507 rfl [some (.ref v0), some (.ref v1), some (.ref v2), some (.ref v3), some (.int v4), some (.int v5), none, none, some (.int v8), some (.int v9), none, none, none, none, none, some (.int v15), some (.long v16), none, some (.int r6), none, none] (by decide) rfl dL_law_505 ?_
    exact h
theorem gL_law_507 {Γ : Gm} {d : Nat} {σ : AH} {Q : Oc → AH → Prop} {v0 : Nat} {v1 : Nat} {v2 : Nat} {v3 : Nat} {v4 : Int32} {v5 : Int32} {v8 : Int32} {v9 : Int32} {v15 : Int32} {v16 : Int64} {v18 : Int32} (h : ((v15 ≤ 7 → EV Γ ML_law d 522 [some (.ref v0), some (.ref v1), some (.ref v2), some (.ref v3), some (.int v4), some (.int v5), none, none, some (.int v8), none, none, none, none, none, none, none, some (.long v16), none, some (.int v18), none, none] [] σ Q) ∧ (¬ v15 ≤ 7 → hs σ v1 = some (6, 17) ∧ CI Γ d MX8_hitting [.ref v1, .int v9] σ (fun r3 σ2 => EV Γ ML_law d 522 [some (.ref v0), some (.ref v1), some (.ref v2), some (.ref v3), some (.int v4), some (.int v5), none, none, some (.int v8), none, none, none, none, none, none, none, some (.long v16), none, some (.int r3), none, none] [] σ2 Q) (fun E σ2 => Q (.inr E) σ2)))) : EV Γ ML_law d 507 [some (.ref v0), some (.ref v1), some (.ref v2), some (.ref v3), some (.int v4), some (.int v5), none, none, some (.int v8), some (.int v9), none, none, none, none, none, some (.int v15), some (.long v16), none, some (.int v18), none, none] [] σ Q := by
  refine EV.iload 509 rfl rfl dL_law_507 ?_
  refine EV.bipush 511 rfl dL_law_509 (v := 7) (by decide) ?_
  refine EV.icmp_le 514 522 rfl (by decide) dL_law_511 (fun c1 => ?_) (fun c1 => ?_)
  · have h := h.1 c1
    refine EV.mask [true, true, true, true, true, true, false, false, true, false, false, false, false, false, false, false, true, false, true, false, false] (L' := [some (.ref v0), some (.ref v1), some (.ref v2), some (.ref v3), some (.int v4), some (.int v5), none, none, some (.int v8), none, none, none, none, none, none, none, some (.long v16), none, some (.int v18), none, none]) rfl ?_
    exact h
  · have h := h.2 c1
    refine EV.aload_n 515 rfl 1 rfl rfl dL_law_514 ?_
    refine EV.iload 517 rfl rfl dL_law_515 ?_
    obtain ⟨w4, h⟩ := h
    refine EV.cV rfl rfl lk_L_96 rfl (vs := [.int v9]) (st := []) rfl rfl (Nat.le_of_ble_eq_true rfl) dL_law_517 w4 h (fun v σ2 h => ?_)
    obtain ⟨r3, rfl, h⟩ := h
    show EV Γ ML_law d 520 [some (.ref v0), some (.ref v1), some (.ref v2), some (.ref v3), some (.int v4), some (.int v5), none, none, some (.int v8), some (.int v9), none, none, none, none, none, some (.int v15), some (.long v16), none, some (.int v18), none, none] [.int r3] σ2 Q
    refine EV.istore 522 rfl [some (.ref v0), some (.ref v1), some (.ref v2), some (.ref v3), some (.int v4), some (.int v5), none, none, some (.int v8), some (.int v9), none, none, none, none, none, some (.int v15), some (.long v16), none, some (.int r3), none, none] (by decide) rfl dL_law_520 ?_
    refine EV.mask [true, true, true, true, true, true, false, false, true, false, false, false, false, false, false, false, true, false, true, false, false] (L' := [some (.ref v0), some (.ref v1), some (.ref v2), some (.ref v3), some (.int v4), some (.int v5), none, none, some (.int v8), none, none, none, none, none, none, none, some (.long v16), none, some (.int r3), none, none]) rfl ?_
    exact h
theorem gL_law_522 {Γ : Gm} {d : Nat} {σ : AH} {Q : Oc → AH → Prop} {v0 : Nat} {v1 : Nat} {v2 : Nat} {v3 : Nat} {v4 : Int32} {v5 : Int32} {v8 : Int32} {v16 : Int64} {v18 : Int32} (h : CI Γ d ML_is [.ref v1, .int v18, .long v16] σ (fun r2 σ1 => ((r2 ≠ 0 → ((8 ≤ v4 → ∃ n6 : Nat, hs σ1 v2 = some (22, n6) ∧ ∃ j7 : Nat, IX v8 n6 j7 ∧ hs σ1 v1 = some (6, 17) ∧ CI Γ d MX8_release [.ref v1, .int (gi σ1 v2 j7)] σ1 (fun r10 σ9 => ((0 ≤ r10 → ∃ n14 : Nat, hs σ9 v2 = some (22, n14) ∧ ∃ j15 : Nat, IX v8 n14 j15 ∧ ∀ σ17 : AH, σ17 = setI σ9 v2 j15 v18 → ∃ n21 : Nat, hs σ17 v3 = some (23, n21) ∧ ∃ j22 : Nat, IX v8 n21 j22 ∧ ∀ σ24 : AH, σ24 = setJ σ17 v3 j22 v16 → EV Γ ML_law d 588 [some (.ref v0), some (.ref v1), some (.ref v2), some (.ref v3), some (.int v4), some (.int v5), none, none, none, none, none, none, none, none, none, none, none, none, none, some (.int 0), none] [] σ24 Q) ∧ (¬ 0 ≤ r10 → Q (.inl (some (.int 0))) σ9))) (fun E σ9 => Q (.inr E) σ9)) ∧ (¬ 8 ≤ v4 → ∃ n29 : Nat, hs σ1 v2 = some (22, n29) ∧ ∃ j30 : Nat, IX v4 n29 j30 ∧ ∀ σ32 : AH, σ32 = setI σ1 v2 j30 v18 → ∃ n36 : Nat, hs σ32 v3 = some (23, n36) ∧ ∃ j37 : Nat, IX v4 n36 j37 ∧ ∀ σ39 : AH, σ39 = setJ σ32 v3 j37 v16 → EV Γ ML_law d 588 [some (.ref v0), some (.ref v1), some (.ref v2), some (.ref v3), some (.int (v4 + 1)), some (.int v5), none, none, none, none, none, none, none, none, none, none, none, none, none, some (.int 0), none] [] σ39 Q))) ∧ (r2 = 0 → Q (.inl (some (.int 0))) σ1))) (fun _ _ => False)) : EV Γ ML_law d 522 [some (.ref v0), some (.ref v1), some (.ref v2), some (.ref v3), some (.int v4), some (.int v5), none, none, some (.int v8), none, none, none, none, none, none, none, some (.long v16), none, some (.int v18), none, none] [] σ Q := by
  refine EV.aload_n 523 rfl 1 rfl rfl dL_law_522 ?_
  refine EV.iload 525 rfl rfl dL_law_523 ?_
  refine EV.lload 527 rfl rfl dL_law_525 ?_
  refine EV.cS rfl lk_L_98 rfl (vs := [.ref v1, .int v18, .long v16]) (st := []) rfl rfl (Nat.le_of_ble_eq_true rfl) dL_law_527 h (fun v σ1 h => ?_)
  obtain ⟨r2, rfl, h⟩ := h
  show EV Γ ML_law d 530 [some (.ref v0), some (.ref v1), some (.ref v2), some (.ref v3), some (.int v4), some (.int v5), none, none, some (.int v8), none, none, none, none, none, none, none, some (.long v16), none, some (.int v18), none, none] [.int r2] σ1 Q
  refine EV.if_ne 533 535 rfl (by decide) dL_law_530 (fun c3 => ?_) (fun c3 => ?_)
  · have h := h.1 c3
    refine EV.iload 537 rfl rfl dL_law_535 ?_
    refine EV.bipush 539 rfl dL_law_537 (v := 8) (by decide) ?_
    refine EV.icmp_ge 542 560 rfl (by decide) dL_law_539 (fun c4 => ?_) (fun c4 => ?_)
    · have h := h.1 c4
      refine EV.aload_n 561 rfl 1 rfl rfl dL_law_560 ?_
      refine EV.aload_n 562 rfl 2 rfl rfl dL_law_561 ?_
      refine EV.iload 564 rfl rfl dL_law_562 ?_
      obtain ⟨n6, w5, h⟩ := h
      obtain ⟨j7, x8, h⟩ := h
      refine EV.iald 565 rfl dL_law_564 w5 x8 ?_
      obtain ⟨w11, h⟩ := h
      refine EV.cV rfl rfl lk_L_102 rfl (vs := [.int (gi σ1 v2 j7)]) (st := []) rfl rfl (Nat.le_of_ble_eq_true rfl) dL_law_565 w11 h (fun v σ9 h => ?_)
      obtain ⟨r10, rfl, h⟩ := h
      show EV Γ ML_law d 568 [some (.ref v0), some (.ref v1), some (.ref v2), some (.ref v3), some (.int v4), some (.int v5), none, none, some (.int v8), none, none, none, none, none, none, none, some (.long v16), none, some (.int v18), none, none] [.int r10] σ9 Q
      refine EV.if_ge 571 573 rfl (by decide) dL_law_568 (fun c12 => ?_) (fun c12 => ?_)
      · have h := h.1 c12
        refine EV.aload_n 574 rfl 2 rfl rfl dL_law_573 ?_
        refine EV.iload 576 rfl rfl dL_law_574 ?_
        refine EV.iload 578 rfl rfl dL_law_576 ?_
        obtain ⟨n14, w13, h⟩ := h
        obtain ⟨j15, x16, h⟩ := h
        refine EV.iast 579 rfl dL_law_578 w13 x16 (EV.nm (fun σ17 e18 => ?_))
        have h := h σ17 e18
        have w19 := tr_hs (hs_setI_of e18) w13
        refine EV.aload_n 580 rfl 3 rfl rfl dL_law_579 ?_
        refine EV.iload 582 rfl rfl dL_law_580 ?_
        refine EV.lload 584 rfl rfl dL_law_582 ?_
        obtain ⟨n21, w20, h⟩ := h
        obtain ⟨j22, x23, h⟩ := h
        refine EV.last 585 rfl dL_law_584 w20 x23 (EV.nm (fun σ24 e25 => ?_))
        have h := h σ24 e25
        have w26 := tr_hs (hs_setJ_of e25) w19
        have w27 := tr_hs (hs_setJ_of e25) w20
        refine EV.iconst 586 rfl dL_law_585 (v := 0) (by decide) ?_
        refine EV.istore 588 rfl [some (.ref v0), some (.ref v1), some (.ref v2), some (.ref v3), some (.int v4), some (.int v5), none, none, some (.int v8), none, none, none, none, none, none, none, some (.long v16), none, some (.int v18), some (.int 0), none] (by decide) rfl dL_law_586 ?_
        refine EV.mask [true, true, true, true, true, true, false, false, false, false, false, false, false, false, false, false, false, false, false, true, false] (L' := [some (.ref v0), some (.ref v1), some (.ref v2), some (.ref v3), some (.int v4), some (.int v5), none, none, none, none, none, none, none, none, none, none, none, none, none, some (.int 0), none]) rfl ?_
        exact h
      · have h := h.2 c12
        refine EV.iconst 572 rfl dL_law_571 (v := 0) (by decide) ?_
        exact EV.zret rfl rfl dL_law_572 h
    · have h := h.2 c4
      refine EV.aload_n 543 rfl 2 rfl rfl dL_law_542 ?_
      refine EV.iload 545 rfl rfl dL_law_543 ?_
      refine EV.iload 547 rfl rfl dL_law_545 ?_
      obtain ⟨n29, w28, h⟩ := h
      obtain ⟨j30, x31, h⟩ := h
      refine EV.iast 548 rfl dL_law_547 w28 x31 (EV.nm (fun σ32 e33 => ?_))
      have h := h σ32 e33
      have w34 := tr_hs (hs_setI_of e33) w28
      refine EV.aload_n 549 rfl 3 rfl rfl dL_law_548 ?_
      refine EV.iload 551 rfl rfl dL_law_549 ?_
      refine EV.lload 553 rfl rfl dL_law_551 ?_
      obtain ⟨n36, w35, h⟩ := h
      obtain ⟨j37, x38, h⟩ := h
      refine EV.last 554 rfl dL_law_553 w35 x38 (EV.nm (fun σ39 e40 => ?_))
      have h := h σ39 e40
      have w41 := tr_hs (hs_setJ_of e40) w34
      have w42 := tr_hs (hs_setJ_of e40) w35
      refine EV.iinc 557 rfl [some (.ref v0), some (.ref v1), some (.ref v2), some (.ref v3), some (.int (v4 + 1)), some (.int v5), none, none, some (.int v8), none, none, none, none, none, none, none, some (.long v16), none, some (.int v18), none, none] (v := 1) (by decide) (by decide) rfl rfl dL_law_554 ?_
      refine EV.goto 585 (by decide) dL_law_557 ?_
      refine EV.iconst 586 rfl dL_law_585 (v := 0) (by decide) ?_
      refine EV.istore 588 rfl [some (.ref v0), some (.ref v1), some (.ref v2), some (.ref v3), some (.int (v4 + 1)), some (.int v5), none, none, some (.int v8), none, none, none, none, none, none, none, some (.long v16), none, some (.int v18), some (.int 0), none] (by decide) rfl dL_law_586 ?_
      refine EV.mask [true, true, true, true, true, true, false, false, false, false, false, false, false, false, false, false, false, false, false, true, false] (L' := [some (.ref v0), some (.ref v1), some (.ref v2), some (.ref v3), some (.int (v4 + 1)), some (.int v5), none, none, none, none, none, none, none, none, none, none, none, none, none, some (.int 0), none]) rfl ?_
      exact h
  · have h := h.2 c3
    refine EV.iconst 534 rfl dL_law_533 (v := 0) (by decide) ?_
    exact EV.zret rfl rfl dL_law_534 h
theorem gL_law_588 {Γ : Gm} {d : Nat} {σ : AH} {Q : Oc → AH → Prop} {v0 : Nat} {v1 : Nat} {v2 : Nat} {v3 : Nat} {v4 : Int32} {v5 : Int32} {v19 : Int32} (h : ((v4 ≤ v19 → EV Γ ML_law d 64 [some (.ref v0), some (.ref v1), some (.ref v2), some (.ref v3), some (.int v4), some (.int (v5 + 1)), none, none, none, none, none, none, none, none, none, none, none, none, none, none, none] [] σ Q) ∧ (¬ v4 ≤ v19 → EV Γ ML_law d 598 [some (.ref v0), some (.ref v1), some (.ref v2), some (.ref v3), some (.int v4), some (.int v5), none, none, none, none, none, none, none, none, none, none, none, none, none, some (.int v19), some (.int 0)] [] σ Q))) : EV Γ ML_law d 588 [some (.ref v0), some (.ref v1), some (.ref v2), some (.ref v3), some (.int v4), some (.int v5), none, none, none, none, none, none, none, none, none, none, none, none, none, some (.int v19), none] [] σ Q := by
  refine EV.iload 590 rfl rfl dL_law_588 ?_
  refine EV.iload 592 rfl rfl dL_law_590 ?_
  refine EV.icmp_ge 595 651 rfl (by decide) dL_law_592 (fun c1 => ?_) (fun c1 => ?_)
  · have h := h.1 c1
    refine EV.iinc 654 rfl [some (.ref v0), some (.ref v1), some (.ref v2), some (.ref v3), some (.int v4), some (.int (v5 + 1)), none, none, none, none, none, none, none, none, none, none, none, none, none, some (.int v19), none] (v := 1) (by decide) (by decide) rfl rfl dL_law_651 ?_
    refine EV.goto 64 (by decide) dL_law_654 ?_
    refine EV.mask [true, true, true, true, true, true, false, false, false, false, false, false, false, false, false, false, false, false, false, false, false] (L' := [some (.ref v0), some (.ref v1), some (.ref v2), some (.ref v3), some (.int v4), some (.int (v5 + 1)), none, none, none, none, none, none, none, none, none, none, none, none, none, none, none]) rfl ?_
    exact h
  · have h := h.2 c1
    refine EV.iconst 596 rfl dL_law_595 (v := 0) (by decide) ?_
    refine EV.istore 598 rfl [some (.ref v0), some (.ref v1), some (.ref v2), some (.ref v3), some (.int v4), some (.int v5), none, none, none, none, none, none, none, none, none, none, none, none, none, some (.int v19), some (.int 0)] (by decide) rfl dL_law_596 ?_
    exact h
theorem gL_law_598 {Γ : Gm} {d : Nat} {σ : AH} {Q : Oc → AH → Prop} {v0 : Nat} {v1 : Nat} {v2 : Nat} {v3 : Nat} {v4 : Int32} {v5 : Int32} {v19 : Int32} {v20 : Int32} (h : ((v19 ≤ v20 → EV Γ ML_law d 588 [some (.ref v0), some (.ref v1), some (.ref v2), some (.ref v3), some (.int v4), some (.int v5), none, none, none, none, none, none, none, none, none, none, none, none, none, some (.int (v19 + 1)), none] [] σ Q) ∧ (¬ v19 ≤ v20 → ∃ n3 : Nat, hs σ v2 = some (22, n3) ∧ ∃ j4 : Nat, IX v19 n3 j4 ∧ ∃ j6 : Nat, IX v20 n3 j6 ∧ hs σ v1 = some (6, 17) ∧ CI Γ d MX8_areEqual [.ref v1, .int (gi σ v2 j4), .int (gi σ v2 j6)] σ (fun r9 σ8 => ∃ n12 : Nat, hs σ8 v3 = some (23, n12) ∧ ∃ j13 : Nat, IX v19 n12 j13 ∧ ∃ j15 : Nat, IX v20 n12 j15 ∧ (((lg_cmp (gj σ8 v3 j13) (gj σ8 v3 j15)) ≠ 0 → EV Γ ML_law d 634 [some (.ref v0), some (.ref v1), some (.ref v2), some (.ref v3), some (.int v4), some (.int v5), none, none, none, none, none, none, none, none, none, none, none, none, none, some (.int v19), some (.int v20)] [.int 0, .int r9] σ8 Q) ∧ ((lg_cmp (gj σ8 v3 j13) (gj σ8 v3 j15)) = 0 → EV Γ ML_law d 634 [some (.ref v0), some (.ref v1), some (.ref v2), some (.ref v3), some (.int v4), some (.int v5), none, none, none, none, none, none, none, none, none, none, none, none, none, some (.int v19), some (.int v20)] [.int 1, .int r9] σ8 Q))) (fun E σ8 => Q (.inr E) σ8)))) : EV Γ ML_law d 598 [some (.ref v0), some (.ref v1), some (.ref v2), some (.ref v3), some (.int v4), some (.int v5), none, none, none, none, none, none, none, none, none, none, none, none, none, some (.int v19), some (.int v20)] [] σ Q := by
  refine EV.iload 600 rfl rfl dL_law_598 ?_
  refine EV.iload 602 rfl rfl dL_law_600 ?_
  refine EV.icmp_ge 605 645 rfl (by decide) dL_law_602 (fun c1 => ?_) (fun c1 => ?_)
  · have h := h.1 c1
    refine EV.iinc 648 rfl [some (.ref v0), some (.ref v1), some (.ref v2), some (.ref v3), some (.int v4), some (.int v5), none, none, none, none, none, none, none, none, none, none, none, none, none, some (.int (v19 + 1)), some (.int v20)] (v := 1) (by decide) (by decide) rfl rfl dL_law_645 ?_
    refine EV.goto 588 (by decide) dL_law_648 ?_
    refine EV.mask [true, true, true, true, true, true, false, false, false, false, false, false, false, false, false, false, false, false, false, true, false] (L' := [some (.ref v0), some (.ref v1), some (.ref v2), some (.ref v3), some (.int v4), some (.int v5), none, none, none, none, none, none, none, none, none, none, none, none, none, some (.int (v19 + 1)), none]) rfl ?_
    exact h
  · have h := h.2 c1
    refine EV.aload_n 606 rfl 1 rfl rfl dL_law_605 ?_
    refine EV.aload_n 607 rfl 2 rfl rfl dL_law_606 ?_
    refine EV.iload 609 rfl rfl dL_law_607 ?_
    obtain ⟨n3, w2, h⟩ := h
    obtain ⟨j4, x5, h⟩ := h
    refine EV.iald 610 rfl dL_law_609 w2 x5 ?_
    refine EV.aload_n 611 rfl 2 rfl rfl dL_law_610 ?_
    refine EV.iload 613 rfl rfl dL_law_611 ?_
    obtain ⟨j6, x7, h⟩ := h
    refine EV.iald 614 rfl dL_law_613 w2 x7 ?_
    obtain ⟨w10, h⟩ := h
    refine EV.cV rfl rfl lk_L_105 rfl (vs := [.int (gi σ v2 j4), .int (gi σ v2 j6)]) (st := []) rfl rfl (Nat.le_of_ble_eq_true rfl) dL_law_614 w10 h (fun v σ8 h => ?_)
    obtain ⟨r9, rfl, h⟩ := h
    show EV Γ ML_law d 617 [some (.ref v0), some (.ref v1), some (.ref v2), some (.ref v3), some (.int v4), some (.int v5), none, none, none, none, none, none, none, none, none, none, none, none, none, some (.int v19), some (.int v20)] [.int r9] σ8 Q
    refine EV.aload_n 618 rfl 3 rfl rfl dL_law_617 ?_
    refine EV.iload 620 rfl rfl dL_law_618 ?_
    obtain ⟨n12, w11, h⟩ := h
    obtain ⟨j13, x14, h⟩ := h
    refine EV.lald 621 rfl dL_law_620 w11 x14 ?_
    refine EV.aload_n 622 rfl 3 rfl rfl dL_law_621 ?_
    refine EV.iload 624 rfl rfl dL_law_622 ?_
    obtain ⟨j15, x16, h⟩ := h
    refine EV.lald 625 rfl dL_law_624 w11 x16 ?_
    refine EV.lcmp 626 rfl dL_law_625 ?_
    refine EV.if_ne 629 633 rfl (by decide) dL_law_626 (fun c17 => ?_) (fun c17 => ?_)
    · have h := h.1 c17
      refine EV.iconst 634 rfl dL_law_633 (v := 0) (by decide) ?_
      exact h
    · have h := h.2 c17
      refine EV.iconst 630 rfl dL_law_629 (v := 1) (by decide) ?_
      refine EV.goto 634 (by decide) dL_law_630 ?_
      exact h
theorem gL_law_634 {Γ : Gm} {d : Nat} {σ : AH} {Q : Oc → AH → Prop} {v0 : Nat} {v1 : Nat} {v2 : Nat} {v3 : Nat} {v4 : Int32} {v5 : Int32} {v19 : Int32} {v20 : Int32} {s0 : Int32} {s1 : Int32} (h : ((s1 = s0 → EV Γ ML_law d 598 [some (.ref v0), some (.ref v1), some (.ref v2), some (.ref v3), some (.int v4), some (.int v5), none, none, none, none, none, none, none, none, none, none, none, none, none, some (.int v19), some (.int (v20 + 1))] [] σ Q) ∧ (¬ s1 = s0 → Q (.inl (some (.int 0))) σ))) : EV Γ ML_law d 634 [some (.ref v0), some (.ref v1), some (.ref v2), some (.ref v3), some (.int v4), some (.int v5), none, none, none, none, none, none, none, none, none, none, none, none, none, some (.int v19), some (.int v20)] [.int s0, .int s1] σ Q := by
  refine EV.icmp_eq 637 639 rfl (by decide) dL_law_634 (fun c1 => ?_) (fun c1 => ?_)
  · have h := h.1 c1
    refine EV.iinc 642 rfl [some (.ref v0), some (.ref v1), some (.ref v2), some (.ref v3), some (.int v4), some (.int v5), none, none, none, none, none, none, none, none, none, none, none, none, none, some (.int v19), some (.int (v20 + 1))] (v := 1) (by decide) (by decide) rfl rfl dL_law_639 ?_
    refine EV.goto 598 (by decide) dL_law_642 ?_
    exact h
  · have h := h.2 c1
    refine EV.iconst 638 rfl dL_law_637 (v := 0) (by decide) ?_
    exact EV.zret rfl rfl dL_law_638 h
theorem gL_law_660 {Γ : Gm} {d : Nat} {σ : AH} {Q : Oc → AH → Prop} {v1 : Nat} {v2 : Nat} {v3 : Nat} {v4 : Int32} {v5 : Int32} (h : ((v4 ≤ v5 → Q (.inl (some (.int 1))) σ) ∧ (¬ v4 ≤ v5 → ∃ n3 : Nat, hs σ v2 = some (22, n3) ∧ ∃ j4 : Nat, IX v5 n3 j4 ∧ ∃ n7 : Nat, hs σ v3 = some (23, n7) ∧ ∃ j8 : Nat, IX v5 n7 j8 ∧ CI Γ d ML_is [.ref v1, .int (gi σ v2 j4), .long (gj σ v3 j8)] σ (fun r11 σ10 => ((r11 ≠ 0 → EV Γ ML_law d 660 [none, some (.ref v1), some (.ref v2), some (.ref v3), some (.int v4), some (.int (v5 + 1)), none, none, none, none, none, none, none, none, none, none, none, none, none, none, none] [] σ10 Q) ∧ (r11 = 0 → Q (.inl (some (.int 0))) σ10))) (fun _ _ => False)))) : EV Γ ML_law d 660 [none, some (.ref v1), some (.ref v2), some (.ref v3), some (.int v4), some (.int v5), none, none, none, none, none, none, none, none, none, none, none, none, none, none, none] [] σ Q := by
  refine EV.iload 662 rfl rfl dL_law_660 ?_
  refine EV.iload 664 rfl rfl dL_law_662 ?_
  refine EV.icmp_ge 667 690 rfl (by decide) dL_law_664 (fun c1 => ?_) (fun c1 => ?_)
  · have h := h.1 c1
    refine EV.iconst 691 rfl dL_law_690 (v := 1) (by decide) ?_
    exact EV.zret rfl rfl dL_law_691 h
  · have h := h.2 c1
    refine EV.aload_n 668 rfl 1 rfl rfl dL_law_667 ?_
    refine EV.aload_n 669 rfl 2 rfl rfl dL_law_668 ?_
    refine EV.iload 671 rfl rfl dL_law_669 ?_
    obtain ⟨n3, w2, h⟩ := h
    obtain ⟨j4, x5, h⟩ := h
    refine EV.iald 672 rfl dL_law_671 w2 x5 ?_
    refine EV.aload_n 673 rfl 3 rfl rfl dL_law_672 ?_
    refine EV.iload 675 rfl rfl dL_law_673 ?_
    obtain ⟨n7, w6, h⟩ := h
    obtain ⟨j8, x9, h⟩ := h
    refine EV.lald 676 rfl dL_law_675 w6 x9 ?_
    refine EV.cS rfl lk_L_98 rfl (vs := [.ref v1, .int (gi σ v2 j4), .long (gj σ v3 j8)]) (st := []) rfl rfl (Nat.le_of_ble_eq_true rfl) dL_law_676 h (fun v σ10 h => ?_)
    obtain ⟨r11, rfl, h⟩ := h
    show EV Γ ML_law d 679 [none, some (.ref v1), some (.ref v2), some (.ref v3), some (.int v4), some (.int v5), none, none, none, none, none, none, none, none, none, none, none, none, none, none, none] [.int r11] σ10 Q
    refine EV.if_ne 682 684 rfl (by decide) dL_law_679 (fun c12 => ?_) (fun c12 => ?_)
    · have h := h.1 c12
      refine EV.iinc 687 rfl [none, some (.ref v1), some (.ref v2), some (.ref v3), some (.int v4), some (.int (v5 + 1)), none, none, none, none, none, none, none, none, none, none, none, none, none, none, none] (v := 1) (by decide) (by decide) rfl rfl dL_law_684 ?_
      refine EV.goto 660 (by decide) dL_law_687 ?_
      exact h
    · have h := h.2 c12
      refine EV.iconst 683 rfl dL_law_682 (v := 0) (by decide) ?_
      exact EV.zret rfl rfl dL_law_683 h
