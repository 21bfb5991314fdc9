/-! THE LAW's own segments (printed by wip/gen/mklaw.py). -/
abbrev ML_law : MI := (yL_law, cL_law, 9, (some .boolean), [])
theorem gL_law_0 {Γ : Gm} {d : Nat} {σ : AH} {Q : Oc → AH → Prop} {v0 : Nat} (h : ∀ (q1 : Nat) (σ2 : AH), q1 = lo Γ + hc σ → σ2 = mk σ q1 6 17 → CV Γ d MX8_init [.ref q1] σ2 (fun σ4 => ∀ (q6 : Nat) (σ7 : AH), q6 = lo Γ + hc σ4 → σ7 = mk σ4 q6 7 27 → CV Γ d MX9_init [.ref q6] σ7 (fun σ9 => ∀ (q11 : Nat) (σ12 : AH), q11 = lo Γ + hc σ9 → σ12 = mk σ9 q11 23 1 → ∀ (q14 : Nat) (σ15 : AH), q14 = lo Γ + hc σ12 → σ15 = mk σ12 q14 24 1 → EV Γ ML_law d 28 [some (.ref v0), some (.ref q1), some (.ref q6), some (.ref q11), some (.ref q14), some (.int 0), none, none, none] [] σ15 Q) (fun _ _ => False)) (fun _ _ => False)) : EV Γ ML_law d 0 [some (.ref v0), none, none, none, none, none, none, none, none] [] σ Q := by
  refine EV.new 3 rfl nl_L_8 (n := 17) rfl dL_law_0 (EV.nq (fun q1 σ2 eq1 eσ2 => ?_))
  have h := h q1 σ2 eq1 eσ2
  have w3 : hs σ2 q1 = some (6, 17) := by rw [eσ2]; exact up_same _ _ _
  refine EV.dup 4 rfl dL_law_3 rfl ?_
  refine EV.cI rfl lk_L_137 rfl rfl (vs := []) (st := [.ref q1]) rfl rfl (Nat.le_of_ble_eq_true rfl) dL_law_4 h (fun  σ4 h => ?_)
  refine EV.astore_n 8 rfl 1 [some (.ref v0), some (.ref q1), none, none, none, none, none, none, none] rfl (by decide) rfl dL_law_7 ?_
  refine EV.new 11 rfl nl_L_138 (n := 27) rfl dL_law_8 (EV.nq (fun q6 σ7 eq6 eσ7 => ?_))
  have h := h q6 σ7 eq6 eσ7
  have w8 : hs σ7 q6 = some (7, 27) := by rw [eσ7]; exact up_same _ _ _
  refine EV.dup 12 rfl dL_law_11 rfl ?_
  refine EV.cI rfl lk_L_140 rfl rfl (vs := []) (st := [.ref q6]) rfl rfl (Nat.le_of_ble_eq_true rfl) dL_law_12 h (fun  σ9 h => ?_)
  refine EV.astore_n 16 rfl 2 [some (.ref v0), some (.ref q1), some (.ref q6), none, none, none, none, none, none] rfl (by decide) rfl dL_law_15 ?_
  refine EV.iconst 17 rfl dL_law_16 (v := 1) (by decide) ?_
  refine EV.newJ 19 rfl (n := 1) ac_long dL_law_17 (by decide) (Nat.le_of_ble_eq_true rfl) (EV.nq (fun q11 σ12 eq11 eσ12 => ?_))
  have h := h q11 σ12 eq11 eσ12
  have w13 : hs σ12 q11 = some (23, 1) := by rw [eσ12]; exact up_same _ _ _
  refine EV.astore_n 20 rfl 3 [some (.ref v0), some (.ref q1), some (.ref q6), some (.ref q11), none, none, none, none, none] rfl (by decide) rfl dL_law_19 ?_
  refine EV.iconst 21 rfl dL_law_20 (v := 1) (by decide) ?_
  refine EV.newD 23 rfl (n := 1) ac_double dL_law_21 (by decide) (Nat.le_of_ble_eq_true rfl) (EV.nq (fun q14 σ15 eq14 eσ15 => ?_))
  have h := h q14 σ15 eq14 eσ15
  have w16 : hs σ15 q14 = some (24, 1) := by rw [eσ15]; exact up_same _ _ _
  refine EV.astore 25 rfl [some (.ref v0), some (.ref q1), some (.ref q6), some (.ref q11), some (.ref q14), none, none, none, none] (by decide) rfl dL_law_23 ?_
  refine EV.iconst 26 rfl dL_law_25 (v := 0) (by decide) ?_
  refine EV.istore 28 rfl [some (.ref v0), some (.ref q1), some (.ref q6), some (.ref q11), some (.ref q14), some (.int 0), none, none, none] (by decide) rfl dL_law_26 ?_
  exact h
theorem eL_law {Γ : Gm} {d : Nat} {σ : AH} {Q : Oc → AH → Prop} {v0 : Nat} (h : ∀ (q1 : Nat) (σ2 : AH), q1 = lo Γ + hc σ → σ2 = mk σ q1 6 17 → CV Γ d MX8_init [.ref q1] σ2 (fun σ4 => ∀ (q6 : Nat) (σ7 : AH), q6 = lo Γ + hc σ4 → σ7 = mk σ4 q6 7 27 → CV Γ d MX9_init [.ref q6] σ7 (fun σ9 => ∀ (q11 : Nat) (σ12 : AH), q11 = lo Γ + hc σ9 → σ12 = mk σ9 q11 23 1 → ∀ (q14 : Nat) (σ15 : AH), q14 = lo Γ + hc σ12 → σ15 = mk σ12 q14 24 1 → EV Γ ML_law d 28 [some (.ref v0), some (.ref q1), some (.ref q6), some (.ref q11), some (.ref q14), some (.int 0), none, none, none] [] σ15 Q) (fun _ _ => False)) (fun _ _ => False)) : RUN Γ d ML_law [.ref v0] σ Q :=
  EV.enter [some (.ref v0), none, none, none, none, none, none, none, none] rfl (by decide +kernel) (Nat.le_of_ble_eq_true rfl) rfl (gL_law_0 h)
theorem gL_law_28 {Γ : Gm} {d : Nat} {σ : AH} {Q : Oc → AH → Prop} {v0 : Nat} {v1 : Nat} {v2 : Nat} {v3 : Nat} {v4 : Nat} {v5 : Int32} (h : ∃ n2 : Nat, hs σ v0 = some (28, n2) ∧ ((((nI n2) - 6) < v5 → Q (.inl (some (.int 1))) σ) ∧ (¬ ((nI n2) - 6) < v5 → ∃ j4 : Nat, IX v5 n2 j4 ∧ ((Int32.toInt ((gi σ v0 j4) &&& 63) = 0 → EV Γ ML_law d 224 [some (.ref v0), some (.ref v1), some (.ref v2), some (.ref v3), some (.ref v4), some (.int v5), none, none, none] [] σ Q) ∧ (Int32.toInt ((gi σ v0 j4) &&& 63) = 1 → EV Γ ML_law d 328 [some (.ref v0), some (.ref v1), some (.ref v2), some (.ref v3), some (.ref v4), some (.int v5), none, none, none] [] σ Q) ∧ (Int32.toInt ((gi σ v0 j4) &&& 63) = 2 → EV Γ ML_law d 384 [some (.ref v0), some (.ref v1), some (.ref v2), some (.ref v3), some (.ref v4), some (.int v5), none, none, none] [] σ Q) ∧ (Int32.toInt ((gi σ v0 j4) &&& 63) = 3 → EV Γ ML_law d 428 [some (.ref v0), some (.ref v1), some (.ref v2), some (.ref v3), some (.ref v4), some (.int v5), none, none, none] [] σ Q) ∧ (Int32.toInt ((gi σ v0 j4) &&& 63) = 4 → EV Γ ML_law d 441 [some (.ref v0), some (.ref v1), some (.ref v2), some (.ref v3), some (.ref v4), some (.int v5), none, none, none] [] σ Q) ∧ (Int32.toInt ((gi σ v0 j4) &&& 63) = 5 → EV Γ ML_law d 497 [some (.ref v0), some (.ref v1), some (.ref v2), some (.ref v3), some (.ref v4), some (.int v5), none, none, none] [] σ Q) ∧ (Int32.toInt ((gi σ v0 j4) &&& 63) = 6 → EV Γ ML_law d 553 [some (.ref v0), some (.ref v1), some (.ref v2), some (.ref v3), some (.ref v4), some (.int v5), none, none, none] [] σ Q) ∧ (Int32.toInt ((gi σ v0 j4) &&& 63) = 7 → EV Γ ML_law d 609 [some (.ref v0), some (.ref v1), some (.ref v2), some (.ref v3), some (.ref v4), some (.int v5), none, none, none] [] σ Q) ∧ (Int32.toInt ((gi σ v0 j4) &&& 63) = 8 → EV Γ ML_law d 677 [some (.ref v0), some (.ref v1), some (.ref v2), some (.ref v3), some (.ref v4), some (.int v5), none, none, none] [] σ Q) ∧ (Int32.toInt ((gi σ v0 j4) &&& 63) = 9 → EV Γ ML_law d 733 [some (.ref v0), some (.ref v1), some (.ref v2), some (.ref v3), some (.ref v4), some (.int v5), none, none, none] [] σ Q) ∧ (Int32.toInt ((gi σ v0 j4) &&& 63) = 10 → EV Γ ML_law d 746 [some (.ref v0), some (.ref v1), some (.ref v2), some (.ref v3), some (.ref v4), some (.int v5), none, none, none] [] σ Q) ∧ (Int32.toInt ((gi σ v0 j4) &&& 63) = 11 → EV Γ ML_law d 759 [some (.ref v0), some (.ref v1), some (.ref v2), some (.ref v3), some (.ref v4), some (.int v5), none, none, none] [] σ Q) ∧ (Int32.toInt ((gi σ v0 j4) &&& 63) = 12 → EV Γ ML_law d 815 [some (.ref v0), some (.ref v1), some (.ref v2), some (.ref v3), some (.ref v4), some (.int v5), none, none, none] [] σ Q) ∧ (Int32.toInt ((gi σ v0 j4) &&& 63) = 13 → EV Γ ML_law d 883 [some (.ref v0), some (.ref v1), some (.ref v2), some (.ref v3), some (.ref v4), some (.int v5), none, none, none] [] σ Q) ∧ (Int32.toInt ((gi σ v0 j4) &&& 63) = 14 → EV Γ ML_law d 951 [some (.ref v0), some (.ref v1), some (.ref v2), some (.ref v3), some (.ref v4), some (.int v5), none, none, none] [] σ Q) ∧ (Int32.toInt ((gi σ v0 j4) &&& 63) = 15 → EV Γ ML_law d 1019 [some (.ref v0), some (.ref v1), some (.ref v2), some (.ref v3), some (.ref v4), some (.int v5), none, none, none] [] σ Q) ∧ (Int32.toInt ((gi σ v0 j4) &&& 63) = 16 → EV Γ ML_law d 1087 [some (.ref v0), some (.ref v1), some (.ref v2), some (.ref v3), some (.ref v4), some (.int v5), none, none, none] [] σ Q) ∧ (Int32.toInt ((gi σ v0 j4) &&& 63) = 17 → EV Γ ML_law d 1155 [some (.ref v0), some (.ref v1), some (.ref v2), some (.ref v3), some (.ref v4), some (.int v5), none, none, none] [] σ Q) ∧ (Int32.toInt ((gi σ v0 j4) &&& 63) = 18 → EV Γ ML_law d 1223 [some (.ref v0), some (.ref v1), some (.ref v2), some (.ref v3), some (.ref v4), some (.int v5), none, none, none] [] σ Q) ∧ (Int32.toInt ((gi σ v0 j4) &&& 63) = 19 → EV Γ ML_law d 1291 [some (.ref v0), some (.ref v1), some (.ref v2), some (.ref v3), some (.ref v4), some (.int v5), none, none, none] [] σ Q) ∧ (Int32.toInt ((gi σ v0 j4) &&& 63) = 20 → EV Γ ML_law d 1359 [some (.ref v0), some (.ref v1), some (.ref v2), some (.ref v3), some (.ref v4), some (.int v5), none, none, none] [] σ Q) ∧ (Int32.toInt ((gi σ v0 j4) &&& 63) = 21 → EV Γ ML_law d 1427 [some (.ref v0), some (.ref v1), some (.ref v2), some (.ref v3), some (.ref v4), some (.int v5), none, none, none] [] σ Q) ∧ (Int32.toInt ((gi σ v0 j4) &&& 63) = 22 → EV Γ ML_law d 1483 [some (.ref v0), some (.ref v1), some (.ref v2), some (.ref v3), some (.ref v4), some (.int v5), none, none, none] [] σ Q) ∧ (Int32.toInt ((gi σ v0 j4) &&& 63) = 23 → EV Γ ML_law d 1539 [some (.ref v0), some (.ref v1), some (.ref v2), some (.ref v3), some (.ref v4), some (.int v5), none, none, none] [] σ Q) ∧ (Int32.toInt ((gi σ v0 j4) &&& 63) = 24 → EV Γ ML_law d 1595 [some (.ref v0), some (.ref v1), some (.ref v2), some (.ref v3), some (.ref v4), some (.int v5), none, none, none] [] σ Q) ∧ (Int32.toInt ((gi σ v0 j4) &&& 63) = 25 → EV Γ ML_law d 1651 [some (.ref v0), some (.ref v1), some (.ref v2), some (.ref v3), some (.ref v4), some (.int v5), none, none, none] [] σ Q) ∧ (Int32.toInt ((gi σ v0 j4) &&& 63) = 26 → EV Γ ML_law d 1719 [some (.ref v0), some (.ref v1), some (.ref v2), some (.ref v3), some (.ref v4), some (.int v5), none, none, none] [] σ Q) ∧ (Int32.toInt ((gi σ v0 j4) &&& 63) = 27 → EV Γ ML_law d 1799 [some (.ref v0), some (.ref v1), some (.ref v2), some (.ref v3), some (.ref v4), some (.int v5), none, none, none] [] σ Q) ∧ (Int32.toInt ((gi σ v0 j4) &&& 63) = 28 → EV Γ ML_law d 1855 [some (.ref v0), some (.ref v1), some (.ref v2), some (.ref v3), some (.ref v4), some (.int v5), none, none, none] [] σ Q) ∧ (Int32.toInt ((gi σ v0 j4) &&& 63) = 29 → EV Γ ML_law d 1923 [some (.ref v0), some (.ref v1), some (.ref v2), some (.ref v3), some (.ref v4), some (.int v5), none, none, none] [] σ Q) ∧ (Int32.toInt ((gi σ v0 j4) &&& 63) = 30 → EV Γ ML_law d 1991 [some (.ref v0), some (.ref v1), some (.ref v2), some (.ref v3), some (.ref v4), some (.int v5), none, none, none] [] σ Q) ∧ (Int32.toInt ((gi σ v0 j4) &&& 63) = 31 → EV Γ ML_law d 2066 [some (.ref v0), some (.ref v1), some (.ref v2), some (.ref v3), some (.ref v4), some (.int v5), none, none, none] [] σ Q) ∧ (Int32.toInt ((gi σ v0 j4) &&& 63) = 32 → EV Γ ML_law d 2141 [some (.ref v0), some (.ref v1), some (.ref v2), some (.ref v3), some (.ref v4), some (.int v5), none, none, none] [] σ Q) ∧ (Int32.toInt ((gi σ v0 j4) &&& 63) = 33 → EV Γ ML_law d 2216 [some (.ref v0), some (.ref v1), some (.ref v2), some (.ref v3), some (.ref v4), some (.int v5), none, none, none] [] σ Q) ∧ (Int32.toInt ((gi σ v0 j4) &&& 63) = 34 → EV Γ ML_law d 2284 [some (.ref v0), some (.ref v1), some (.ref v2), some (.ref v3), some (.ref v4), some (.int v5), none, none, none] [] σ Q) ∧ (Int32.toInt ((gi σ v0 j4) &&& 63) = 35 → EV Γ ML_law d 2352 [some (.ref v0), some (.ref v1), some (.ref v2), some (.ref v3), some (.ref v4), some (.int v5), none, none, none] [] σ Q) ∧ (Int32.toInt ((gi σ v0 j4) &&& 63) = 36 → EV Γ ML_law d 2420 [some (.ref v0), some (.ref v1), some (.ref v2), some (.ref v3), some (.ref v4), some (.int v5), none, none, none] [] σ Q) ∧ (Int32.toInt ((gi σ v0 j4) &&& 63) = 37 → EV Γ ML_law d 2476 [some (.ref v0), some (.ref v1), some (.ref v2), some (.ref v3), some (.ref v4), some (.int v5), none, none, none] [] σ Q) ∧ (Int32.toInt ((gi σ v0 j4) &&& 63) = 38 → EV Γ ML_law d 2553 [some (.ref v0), some (.ref v1), some (.ref v2), some (.ref v3), some (.ref v4), some (.int v5), none, none, none] [] σ Q) ∧ (Int32.toInt ((gi σ v0 j4) &&& 63) = 39 → EV Γ ML_law d 2633 [some (.ref v0), some (.ref v1), some (.ref v2), some (.ref v3), some (.ref v4), some (.int v5), none, none, none] [] σ Q) ∧ (Int32.toInt ((gi σ v0 j4) &&& 63) = 40 → EV Γ ML_law d 2689 [some (.ref v0), some (.ref v1), some (.ref v2), some (.ref v3), some (.ref v4), some (.int v5), none, none, none] [] σ Q) ∧ (Int32.toInt ((gi σ v0 j4) &&& 63) < 0 ∨ 40 < Int32.toInt ((gi σ v0 j4) &&& 63) → EV Γ ML_law d 2703 [some (.ref v0), some (.ref v1), some (.ref v2), some (.ref v3), some (.ref v4), some (.int v5), none, none, none] [] σ Q))))) : EV Γ ML_law d 28 [some (.ref v0), some (.ref v1), some (.ref v2), some (.ref v3), some (.ref v4), some (.int v5), none, none, none] [] σ Q := by
  refine EV.iload 30 rfl rfl dL_law_28 ?_
  refine EV.aload_n 31 rfl 0 rfl rfl dL_law_30 ?_
  obtain ⟨n2, w1, h⟩ := h
  refine EV.alenS 32 rfl dL_law_31 w1 ?_
  refine EV.bipush 34 rfl dL_law_32 (v := 6) (by decide) ?_
  refine EV.isub 35 rfl dL_law_34 ?_
  refine EV.icmp_gt 38 2709 rfl (by decide) dL_law_35 (fun c3 => ?_) (fun c3 => ?_)
  · have h := h.1 c3
    refine EV.iconst 2710 rfl dL_law_2709 (v := 1) (by decide) ?_
    exact EV.zret rfl rfl dL_law_2710 h
  · have h := h.2 c3
    refine EV.aload_n 39 rfl 0 rfl rfl dL_law_38 ?_
    refine EV.iload 41 rfl rfl dL_law_39 ?_
    obtain ⟨j4, x5, h⟩ := h
    refine EV.ialdS 42 rfl dL_law_41 w1 x5 ?_
    refine EV.bipush 44 rfl dL_law_42 (v := 63) (by decide) ?_
    refine EV.iand 45 rfl dL_law_44 ?_
    refine EV.tableswitch dL_law_45 (fun j off c1 c2 ho => ?_) (fun j c1 c2 ho => ?_) (fun c1 => ?_)
    · match j, c1, ho with
      | 0, c1, ho =>
        cases ho
        refine ⟨224, rfl, ?_⟩
        have h := h.1 (by omega)
        exact h
      | 1, c1, ho =>
        cases ho
        refine ⟨328, rfl, ?_⟩
        have h := h.2.1 (by omega)
        exact h
      | 2, c1, ho =>
        cases ho
        refine ⟨384, rfl, ?_⟩
        have h := h.2.2.1 (by omega)
        exact h
      | 3, c1, ho =>
        cases ho
        refine ⟨428, rfl, ?_⟩
        have h := h.2.2.2.1 (by omega)
        exact h
      | 4, c1, ho =>
        cases ho
        refine ⟨441, rfl, ?_⟩
        have h := h.2.2.2.2.1 (by omega)
        exact h
      | 5, c1, ho =>
        cases ho
        refine ⟨497, rfl, ?_⟩
        have h := h.2.2.2.2.2.1 (by omega)
        exact h
      | 6, c1, ho =>
        cases ho
        refine ⟨553, rfl, ?_⟩
        have h := h.2.2.2.2.2.2.1 (by omega)
        exact h
      | 7, c1, ho =>
        cases ho
        refine ⟨609, rfl, ?_⟩
        have h := h.2.2.2.2.2.2.2.1 (by omega)
        exact h
      | 8, c1, ho =>
        cases ho
        refine ⟨677, rfl, ?_⟩
        have h := h.2.2.2.2.2.2.2.2.1 (by omega)
        exact h
      | 9, c1, ho =>
        cases ho
        refine ⟨733, rfl, ?_⟩
        have h := h.2.2.2.2.2.2.2.2.2.1 (by omega)
        exact h
      | 10, c1, ho =>
        cases ho
        refine ⟨746, rfl, ?_⟩
        have h := h.2.2.2.2.2.2.2.2.2.2.1 (by omega)
        exact h
      | 11, c1, ho =>
        cases ho
        refine ⟨759, rfl, ?_⟩
        have h := h.2.2.2.2.2.2.2.2.2.2.2.1 (by omega)
        exact h
      | 12, c1, ho =>
        cases ho
        refine ⟨815, rfl, ?_⟩
        have h := h.2.2.2.2.2.2.2.2.2.2.2.2.1 (by omega)
        exact h
      | 13, c1, ho =>
        cases ho
        refine ⟨883, rfl, ?_⟩
        have h := h.2.2.2.2.2.2.2.2.2.2.2.2.2.1 (by omega)
        exact h
      | 14, c1, ho =>
        cases ho
        refine ⟨951, rfl, ?_⟩
        have h := h.2.2.2.2.2.2.2.2.2.2.2.2.2.2.1 (by omega)
        exact h
      | 15, c1, ho =>
        cases ho
        refine ⟨1019, rfl, ?_⟩
        have h := h.2.2.2.2.2.2.2.2.2.2.2.2.2.2.2.1 (by omega)
        exact h
      | 16, c1, ho =>
        cases ho
        refine ⟨1087, rfl, ?_⟩
        have h := h.2.2.2.2.2.2.2.2.2.2.2.2.2.2.2.2.1 (by omega)
        exact h
      | 17, c1, ho =>
        cases ho
        refine ⟨1155, rfl, ?_⟩
        have h := h.2.2.2.2.2.2.2.2.2.2.2.2.2.2.2.2.2.1 (by omega)
        exact h
      | 18, c1, ho =>
        cases ho
        refine ⟨1223, rfl, ?_⟩
        have h := h.2.2.2.2.2.2.2.2.2.2.2.2.2.2.2.2.2.2.1 (by omega)
        exact h
      | 19, c1, ho =>
        cases ho
        refine ⟨1291, rfl, ?_⟩
        have h := h.2.2.2.2.2.2.2.2.2.2.2.2.2.2.2.2.2.2.2.1 (by omega)
        exact h
      | 20, c1, ho =>
        cases ho
        refine ⟨1359, rfl, ?_⟩
        have h := h.2.2.2.2.2.2.2.2.2.2.2.2.2.2.2.2.2.2.2.2.1 (by omega)
        exact h
      | 21, c1, ho =>
        cases ho
        refine ⟨1427, rfl, ?_⟩
        have h := h.2.2.2.2.2.2.2.2.2.2.2.2.2.2.2.2.2.2.2.2.2.1 (by omega)
        exact h
      | 22, c1, ho =>
        cases ho
        refine ⟨1483, rfl, ?_⟩
        have h := h.2.2.2.2.2.2.2.2.2.2.2.2.2.2.2.2.2.2.2.2.2.2.1 (by omega)
        exact h
      | 23, c1, ho =>
        cases ho
        refine ⟨1539, rfl, ?_⟩
        have h := h.2.2.2.2.2.2.2.2.2.2.2.2.2.2.2.2.2.2.2.2.2.2.2.1 (by omega)
        exact h
      | 24, c1, ho =>
        cases ho
        refine ⟨1595, rfl, ?_⟩
        have h := h.2.2.2.2.2.2.2.2.2.2.2.2.2.2.2.2.2.2.2.2.2.2.2.2.1 (by omega)
        exact h
      | 25, c1, ho =>
        cases ho
        refine ⟨1651, rfl, ?_⟩
        have h := h.2.2.2.2.2.2.2.2.2.2.2.2.2.2.2.2.2.2.2.2.2.2.2.2.2.1 (by omega)
        exact h
      | 26, c1, ho =>
        cases ho
        refine ⟨1719, rfl, ?_⟩
        have h := h.2.2.2.2.2.2.2.2.2.2.2.2.2.2.2.2.2.2.2.2.2.2.2.2.2.2.1 (by omega)
        exact h
      | 27, c1, ho =>
        cases ho
        refine ⟨1799, rfl, ?_⟩
        have h := h.2.2.2.2.2.2.2.2.2.2.2.2.2.2.2.2.2.2.2.2.2.2.2.2.2.2.2.1 (by omega)
        exact h
      | 28, c1, ho =>
        cases ho
        refine ⟨1855, rfl, ?_⟩
        have h := h.2.2.2.2.2.2.2.2.2.2.2.2.2.2.2.2.2.2.2.2.2.2.2.2.2.2.2.2.1 (by omega)
        exact h
      | 29, c1, ho =>
        cases ho
        refine ⟨1923, rfl, ?_⟩
        have h := h.2.2.2.2.2.2.2.2.2.2.2.2.2.2.2.2.2.2.2.2.2.2.2.2.2.2.2.2.2.1 (by omega)
        exact h
      | 30, c1, ho =>
        cases ho
        refine ⟨1991, rfl, ?_⟩
        have h := h.2.2.2.2.2.2.2.2.2.2.2.2.2.2.2.2.2.2.2.2.2.2.2.2.2.2.2.2.2.2.1 (by omega)
        exact h
      | 31, c1, ho =>
        cases ho
        refine ⟨2066, rfl, ?_⟩
        have h := h.2.2.2.2.2.2.2.2.2.2.2.2.2.2.2.2.2.2.2.2.2.2.2.2.2.2.2.2.2.2.2.1 (by omega)
        exact h
      | 32, c1, ho =>
        cases ho
        refine ⟨2141, rfl, ?_⟩
        have h := h.2.2.2.2.2.2.2.2.2.2.2.2.2.2.2.2.2.2.2.2.2.2.2.2.2.2.2.2.2.2.2.2.1 (by omega)
        exact h
      | 33, c1, ho =>
        cases ho
        refine ⟨2216, rfl, ?_⟩
        have h := h.2.2.2.2.2.2.2.2.2.2.2.2.2.2.2.2.2.2.2.2.2.2.2.2.2.2.2.2.2.2.2.2.2.1 (by omega)
        exact h
      | 34, c1, ho =>
        cases ho
        refine ⟨2284, rfl, ?_⟩
        have h := h.2.2.2.2.2.2.2.2.2.2.2.2.2.2.2.2.2.2.2.2.2.2.2.2.2.2.2.2.2.2.2.2.2.2.1 (by omega)
        exact h
      | 35, c1, ho =>
        cases ho
        refine ⟨2352, rfl, ?_⟩
        have h := h.2.2.2.2.2.2.2.2.2.2.2.2.2.2.2.2.2.2.2.2.2.2.2.2.2.2.2.2.2.2.2.2.2.2.2.1 (by omega)
        exact h
      | 36, c1, ho =>
        cases ho
        refine ⟨2420, rfl, ?_⟩
        have h := h.2.2.2.2.2.2.2.2.2.2.2.2.2.2.2.2.2.2.2.2.2.2.2.2.2.2.2.2.2.2.2.2.2.2.2.2.1 (by omega)
        exact h
      | 37, c1, ho =>
        cases ho
        refine ⟨2476, rfl, ?_⟩
        have h := h.2.2.2.2.2.2.2.2.2.2.2.2.2.2.2.2.2.2.2.2.2.2.2.2.2.2.2.2.2.2.2.2.2.2.2.2.2.1 (by omega)
        exact h
      | 38, c1, ho =>
        cases ho
        refine ⟨2553, rfl, ?_⟩
        have h := h.2.2.2.2.2.2.2.2.2.2.2.2.2.2.2.2.2.2.2.2.2.2.2.2.2.2.2.2.2.2.2.2.2.2.2.2.2.2.1 (by omega)
        exact h
      | 39, c1, ho =>
        cases ho
        refine ⟨2633, rfl, ?_⟩
        have h := h.2.2.2.2.2.2.2.2.2.2.2.2.2.2.2.2.2.2.2.2.2.2.2.2.2.2.2.2.2.2.2.2.2.2.2.2.2.2.2.1 (by omega)
        exact h
      | 40, c1, ho =>
        cases ho
        refine ⟨2689, rfl, ?_⟩
        have h := h.2.2.2.2.2.2.2.2.2.2.2.2.2.2.2.2.2.2.2.2.2.2.2.2.2.2.2.2.2.2.2.2.2.2.2.2.2.2.2.2.1 (by omega)
        exact h
      | j + 41, c1, ho => exact absurd c2 (by omega)
    · match j, c1, ho with
      | 0, c1, ho => cases ho
      | 1, c1, ho => cases ho
      | 2, c1, ho => cases ho
      | 3, c1, ho => cases ho
      | 4, c1, ho => cases ho
      | 5, c1, ho => cases ho
      | 6, c1, ho => cases ho
      | 7, c1, ho => cases ho
      | 8, c1, ho => cases ho
      | 9, c1, ho => cases ho
      | 10, c1, ho => cases ho
      | 11, c1, ho => cases ho
      | 12, c1, ho => cases ho
      | 13, c1, ho => cases ho
      | 14, c1, ho => cases ho
      | 15, c1, ho => cases ho
      | 16, c1, ho => cases ho
      | 17, c1, ho => cases ho
      | 18, c1, ho => cases ho
      | 19, c1, ho => cases ho
      | 20, c1, ho => cases ho
      | 21, c1, ho => cases ho
      | 22, c1, ho => cases ho
      | 23, c1, ho => cases ho
      | 24, c1, ho => cases ho
      | 25, c1, ho => cases ho
      | 26, c1, ho => cases ho
      | 27, c1, ho => cases ho
      | 28, c1, ho => cases ho
      | 29, c1, ho => cases ho
      | 30, c1, ho => cases ho
      | 31, c1, ho => cases ho
      | 32, c1, ho => cases ho
      | 33, c1, ho => cases ho
      | 34, c1, ho => cases ho
      | 35, c1, ho => cases ho
      | 36, c1, ho => cases ho
      | 37, c1, ho => cases ho
      | 38, c1, ho => cases ho
      | 39, c1, ho => cases ho
      | 40, c1, ho => cases ho
      | j + 41, c1, ho => exact absurd c2 (by omega)
    · refine ⟨2703, rfl, ?_⟩
      have h := h.2.2.2.2.2.2.2.2.2.2.2.2.2.2.2.2.2.2.2.2.2.2.2.2.2.2.2.2.2.2.2.2.2.2.2.2.2.2.2.2.2 c1
      exact h
theorem gL_law_224 {Γ : Gm} {d : Nat} {σ : AH} {Q : Oc → AH → Prop} {v0 : Nat} {v1 : Nat} {v2 : Nat} {v3 : Nat} {v4 : Nat} {v5 : Int32} (h : ∃ n2 : Nat, hs σ v0 = some (28, n2) ∧ ∃ j3 : Nat, IX (v5 + 1) n2 j3 ∧ ∃ j5 : Nat, IX (v5 + 2) n2 j5 ∧ ∃ j7 : Nat, IX (v5 + 3) n2 j7 ∧ ∃ j9 : Nat, IX (v5 + 4) n2 j9 ∧ ∃ j11 : Nat, IX (v5 + 5) n2 j11 ∧ CI Γ d ML_feed [.ref v1, .int (gi σ v0 j3), .int (gi σ v0 j5), .int (gi σ v0 j7), .int (gi σ v0 j9), .int (gi σ v0 j11), .ref v3] σ (fun r14 σ13 => ∃ n16 : Nat, hs σ13 v0 = some (28, n16) ∧ ∃ j17 : Nat, IX (v5 + 1) n16 j17 ∧ ∃ j19 : Nat, IX (v5 + 2) n16 j19 ∧ ∃ j21 : Nat, IX (v5 + 3) n16 j21 ∧ ∃ j23 : Nat, IX (v5 + 4) n16 j23 ∧ ∃ j25 : Nat, IX (v5 + 5) n16 j25 ∧ hs σ13 v2 = some (7, 27) ∧ CI Γ d MX9_feed [.ref v2, .int (gi σ13 v0 j17), .int (gi σ13 v0 j19), .int (gi σ13 v0 j21), .int (gi σ13 v0 j23), .int (gi σ13 v0 j25)] σ13 (fun r28 σ27 => hs σ27 v2 = some (7, 27) ∧ CI Γ d MX9_thrown [.ref v2] σ27 (fun r31 σ30 => ((r31 = r14 → ((r14 ≠ 0 → EV Γ ML_law d 2703 [some (.ref v0), some (.ref v1), some (.ref v2), some (.ref v3), some (.ref v4), some (.int v5), none, none, none] [] σ30 Q) ∧ (r14 = 0 → ∃ n36 : Nat, hs σ30 v3 = some (23, n36) ∧ ∃ j37 : Nat, IX 0 n36 j37 ∧ (((lg_cmp (gj σ30 v3 j37) (Int32.toInt64 r28)) = 0 → EV Γ ML_law d 2703 [some (.ref v0), some (.ref v1), some (.ref v2), some (.ref v3), some (.ref v4), some (.int v5), none, none, none] [] σ30 Q) ∧ (¬ (lg_cmp (gj σ30 v3 j37) (Int32.toInt64 r28)) = 0 → Q (.inl (some (.int 0))) σ30))))) ∧ (¬ r31 = r14 → Q (.inl (some (.int 0))) σ30))) (fun E σ30 => Q (.inr E) σ30)) (fun E σ27 => Q (.inr E) σ27)) (fun _ _ => False)) : EV Γ ML_law d 224 [some (.ref v0), some (.ref v1), some (.ref v2), some (.ref v3), some (.ref v4), some (.int v5), none, none, none] [] σ Q := by
  refine EV.aload_n 225 rfl 1 rfl rfl dL_law_224 ?_
  refine EV.aload_n 226 rfl 0 rfl rfl dL_law_225 ?_
  refine EV.iload 228 rfl rfl dL_law_226 ?_
  refine EV.iconst 229 rfl dL_law_228 (v := 1) (by decide) ?_
  refine EV.iadd 230 rfl dL_law_229 ?_
  obtain ⟨n2, w1, h⟩ := h
  obtain ⟨j3, x4, h⟩ := h
  refine EV.ialdS 231 rfl dL_law_230 w1 x4 ?_
  refine EV.aload_n 232 rfl 0 rfl rfl dL_law_231 ?_
  refine EV.iload 234 rfl rfl dL_law_232 ?_
  refine EV.iconst 235 rfl dL_law_234 (v := 2) (by decide) ?_
  refine EV.iadd 236 rfl dL_law_235 ?_
  obtain ⟨j5, x6, h⟩ := h
  refine EV.ialdS 237 rfl dL_law_236 w1 x6 ?_
  refine EV.aload_n 238 rfl 0 rfl rfl dL_law_237 ?_
  refine EV.iload 240 rfl rfl dL_law_238 ?_
  refine EV.iconst 241 rfl dL_law_240 (v := 3) (by decide) ?_
  refine EV.iadd 242 rfl dL_law_241 ?_
  obtain ⟨j7, x8, h⟩ := h
  refine EV.ialdS 243 rfl dL_law_242 w1 x8 ?_
  refine EV.aload_n 244 rfl 0 rfl rfl dL_law_243 ?_
  refine EV.iload 246 rfl rfl dL_law_244 ?_
  refine EV.iconst 247 rfl dL_law_246 (v := 4) (by decide) ?_
  refine EV.iadd 248 rfl dL_law_247 ?_
  obtain ⟨j9, x10, h⟩ := h
  refine EV.ialdS 249 rfl dL_law_248 w1 x10 ?_
  refine EV.aload_n 250 rfl 0 rfl rfl dL_law_249 ?_
  refine EV.iload 252 rfl rfl dL_law_250 ?_
  refine EV.iconst 253 rfl dL_law_252 (v := 5) (by decide) ?_
  refine EV.iadd 254 rfl dL_law_253 ?_
  obtain ⟨j11, x12, h⟩ := h
  refine EV.ialdS 255 rfl dL_law_254 w1 x12 ?_
  refine EV.aload_n 256 rfl 3 rfl rfl dL_law_255 ?_
  refine EV.cSW rfl lk_L_141 rfl (vs := [.ref v1, .int (gi σ v0 j3), .int (gi σ v0 j5), .int (gi σ v0 j7), .int (gi σ v0 j9), .int (gi σ v0 j11), .ref v3]) (st := []) rfl rfl (Nat.le_of_ble_eq_true rfl) dL_law_256 h (fun v σ13 h => ?_)
  obtain ⟨r14, rfl, h⟩ := h
  show EV Γ ML_law d 259 [some (.ref v0), some (.ref v1), some (.ref v2), some (.ref v3), some (.ref v4), some (.int v5), none, none, none] [.int r14] σ13 Q
  refine EV.istore 261 rfl [some (.ref v0), some (.ref v1), some (.ref v2), some (.ref v3), some (.ref v4), some (.int v5), some (.int r14), none, none] (by decide) rfl dL_law_259 ?_
  refine EV.aload_n 262 rfl 2 rfl rfl dL_law_261 ?_
  refine EV.aload_n 263 rfl 0 rfl rfl dL_law_262 ?_
  refine EV.iload 265 rfl rfl dL_law_263 ?_
  refine EV.iconst 266 rfl dL_law_265 (v := 1) (by decide) ?_
  refine EV.iadd 267 rfl dL_law_266 ?_
  obtain ⟨n16, w15, h⟩ := h
  obtain ⟨j17, x18, h⟩ := h
  refine EV.ialdS 268 rfl dL_law_267 w15 x18 ?_
  refine EV.aload_n 269 rfl 0 rfl rfl dL_law_268 ?_
  refine EV.iload 271 rfl rfl dL_law_269 ?_
  refine EV.iconst 272 rfl dL_law_271 (v := 2) (by decide) ?_
  refine EV.iadd 273 rfl dL_law_272 ?_
  obtain ⟨j19, x20, h⟩ := h
  refine EV.ialdS 274 rfl dL_law_273 w15 x20 ?_
  refine EV.aload_n 275 rfl 0 rfl rfl dL_law_274 ?_
  refine EV.iload 277 rfl rfl dL_law_275 ?_
  refine EV.iconst 278 rfl dL_law_277 (v := 3) (by decide) ?_
  refine EV.iadd 279 rfl dL_law_278 ?_
  obtain ⟨j21, x22, h⟩ := h
  refine EV.ialdS 280 rfl dL_law_279 w15 x22 ?_
  refine EV.aload_n 281 rfl 0 rfl rfl dL_law_280 ?_
  refine EV.iload 283 rfl rfl dL_law_281 ?_
  refine EV.iconst 284 rfl dL_law_283 (v := 4) (by decide) ?_
  refine EV.iadd 285 rfl dL_law_284 ?_
  obtain ⟨j23, x24, h⟩ := h
  refine EV.ialdS 286 rfl dL_law_285 w15 x24 ?_
  refine EV.aload_n 287 rfl 0 rfl rfl dL_law_286 ?_
  refine EV.iload 289 rfl rfl dL_law_287 ?_
  refine EV.iconst 290 rfl dL_law_289 (v := 5) (by decide) ?_
  refine EV.iadd 291 rfl dL_law_290 ?_
  obtain ⟨j25, x26, h⟩ := h
  refine EV.ialdS 292 rfl dL_law_291 w15 x26 ?_
  obtain ⟨w29, h⟩ := h
  refine EV.cV rfl rfl lk_L_146 rfl (vs := [.int (gi σ13 v0 j17), .int (gi σ13 v0 j19), .int (gi σ13 v0 j21), .int (gi σ13 v0 j23), .int (gi σ13 v0 j25)]) (st := []) rfl rfl (Nat.le_of_ble_eq_true rfl) dL_law_292 w29 h (fun v σ27 h => ?_)
  obtain ⟨r28, rfl, h⟩ := h
  show EV Γ ML_law d 295 [some (.ref v0), some (.ref v1), some (.ref v2), some (.ref v3), some (.ref v4), some (.int v5), some (.int r14), none, none] [.int r28] σ27 Q
  refine EV.istore 297 rfl [some (.ref v0), some (.ref v1), some (.ref v2), some (.ref v3), some (.ref v4), some (.int v5), some (.int r14), some (.int r28), none] (by decide) rfl dL_law_295 ?_
  refine EV.aload_n 298 rfl 2 rfl rfl dL_law_297 ?_
  obtain ⟨w32, h⟩ := h
  refine EV.cV rfl rfl lk_L_147 rfl (vs := []) (st := []) rfl rfl (Nat.le_of_ble_eq_true rfl) dL_law_298 w32 h (fun v σ30 h => ?_)
  obtain ⟨r31, rfl, h⟩ := h
  show EV Γ ML_law d 301 [some (.ref v0), some (.ref v1), some (.ref v2), some (.ref v3), some (.ref v4), some (.int v5), some (.int r14), some (.int r28), none] [.int r31] σ30 Q
  refine EV.iload 303 rfl rfl dL_law_301 ?_
  refine EV.icmp_eq 306 308 rfl (by decide) dL_law_303 (fun c33 => ?_) (fun c33 => ?_)
  · have h := h.1 c33
    refine EV.iload 310 rfl rfl dL_law_308 ?_
    refine EV.if_ne 313 325 rfl (by decide) dL_law_310 (fun c34 => ?_) (fun c34 => ?_)
    · have h := h.1 c34
      refine EV.goto 2703 (by decide) dL_law_325 ?_
      refine EV.mask [true, true, true, true, true, true, false, false, false] (L' := [some (.ref v0), some (.ref v1), some (.ref v2), some (.ref v3), some (.ref v4), some (.int v5), none, none, none]) rfl ?_
      exact h
    · have h := h.2 c34
      refine EV.aload_n 314 rfl 3 rfl rfl dL_law_313 ?_
      refine EV.iconst 315 rfl dL_law_314 (v := 0) (by decide) ?_
      obtain ⟨n36, w35, h⟩ := h
      obtain ⟨j37, x38, h⟩ := h
      refine EV.lald 316 rfl dL_law_315 w35 x38 ?_
      refine EV.iload 318 rfl rfl dL_law_316 ?_
      refine EV.i2l 319 rfl dL_law_318 ?_
      refine EV.lcmp 320 rfl dL_law_319 ?_
      refine EV.if_eq 323 325 rfl (by decide) dL_law_320 (fun c39 => ?_) (fun c39 => ?_)
      · have h := h.1 c39
        refine EV.goto 2703 (by decide) dL_law_325 ?_
        refine EV.mask [true, true, true, true, true, true, false, false, false] (L' := [some (.ref v0), some (.ref v1), some (.ref v2), some (.ref v3), some (.ref v4), some (.int v5), none, none, none]) rfl ?_
        exact h
      · have h := h.2 c39
        refine EV.iconst 324 rfl dL_law_323 (v := 0) (by decide) ?_
        exact EV.zret rfl rfl dL_law_324 h
  · have h := h.2 c33
    refine EV.iconst 307 rfl dL_law_306 (v := 0) (by decide) ?_
    exact EV.zret rfl rfl dL_law_307 h
theorem gL_law_328 {Γ : Gm} {d : Nat} {σ : AH} {Q : Oc → AH → Prop} {v0 : Nat} {v1 : Nat} {v2 : Nat} {v3 : Nat} {v4 : Nat} {v5 : Int32} (h : ∃ n2 : Nat, hs σ v0 = some (28, n2) ∧ ∃ j3 : Nat, IX (v5 + 1) n2 j3 ∧ CI Γ d ML_trim [.ref v1, .int (gi σ v0 j3), .ref v3] σ (fun r6 σ5 => ∃ n8 : Nat, hs σ5 v0 = some (28, n8) ∧ ∃ j9 : Nat, IX (v5 + 1) n8 j9 ∧ hs σ5 v2 = some (7, 27) ∧ CI Γ d MX9_trim [.ref v2, .int (gi σ5 v0 j9)] σ5 (fun r12 σ11 => hs σ11 v2 = some (7, 27) ∧ CI Γ d MX9_thrown [.ref v2] σ11 (fun r15 σ14 => ((r15 = r6 → ((r6 ≠ 0 → EV Γ ML_law d 2703 [some (.ref v0), some (.ref v1), some (.ref v2), some (.ref v3), some (.ref v4), some (.int v5), none, none, none] [] σ14 Q) ∧ (r6 = 0 → ∃ n20 : Nat, hs σ14 v3 = some (23, n20) ∧ ∃ j21 : Nat, IX 0 n20 j21 ∧ (((lg_cmp (gj σ14 v3 j21) (Int32.toInt64 r12)) = 0 → EV Γ ML_law d 2703 [some (.ref v0), some (.ref v1), some (.ref v2), some (.ref v3), some (.ref v4), some (.int v5), none, none, none] [] σ14 Q) ∧ (¬ (lg_cmp (gj σ14 v3 j21) (Int32.toInt64 r12)) = 0 → Q (.inl (some (.int 0))) σ14))))) ∧ (¬ r15 = r6 → Q (.inl (some (.int 0))) σ14))) (fun E σ14 => Q (.inr E) σ14)) (fun E σ11 => Q (.inr E) σ11)) (fun _ _ => False)) : EV Γ ML_law d 328 [some (.ref v0), some (.ref v1), some (.ref v2), some (.ref v3), some (.ref v4), some (.int v5), none, none, none] [] σ Q := by
  refine EV.aload_n 329 rfl 1 rfl rfl dL_law_328 ?_
  refine EV.aload_n 330 rfl 0 rfl rfl dL_law_329 ?_
  refine EV.iload 332 rfl rfl dL_law_330 ?_
  refine EV.iconst 333 rfl dL_law_332 (v := 1) (by decide) ?_
  refine EV.iadd 334 rfl dL_law_333 ?_
  obtain ⟨n2, w1, h⟩ := h
  obtain ⟨j3, x4, h⟩ := h
  refine EV.ialdS 335 rfl dL_law_334 w1 x4 ?_
  refine EV.aload_n 336 rfl 3 rfl rfl dL_law_335 ?_
  refine EV.cSW rfl lk_L_150 rfl (vs := [.ref v1, .int (gi σ v0 j3), .ref v3]) (st := []) rfl rfl (Nat.le_of_ble_eq_true rfl) dL_law_336 h (fun v σ5 h => ?_)
  obtain ⟨r6, rfl, h⟩ := h
  show EV Γ ML_law d 339 [some (.ref v0), some (.ref v1), some (.ref v2), some (.ref v3), some (.ref v4), some (.int v5), none, none, none] [.int r6] σ5 Q
  refine EV.istore 341 rfl [some (.ref v0), some (.ref v1), some (.ref v2), some (.ref v3), some (.ref v4), some (.int v5), some (.int r6), none, none] (by decide) rfl dL_law_339 ?_
  refine EV.aload_n 342 rfl 2 rfl rfl dL_law_341 ?_
  refine EV.aload_n 343 rfl 0 rfl rfl dL_law_342 ?_
  refine EV.iload 345 rfl rfl dL_law_343 ?_
  refine EV.iconst 346 rfl dL_law_345 (v := 1) (by decide) ?_
  refine EV.iadd 347 rfl dL_law_346 ?_
  obtain ⟨n8, w7, h⟩ := h
  obtain ⟨j9, x10, h⟩ := h
  refine EV.ialdS 348 rfl dL_law_347 w7 x10 ?_
  obtain ⟨w13, h⟩ := h
  refine EV.cV rfl rfl lk_L_153 rfl (vs := [.int (gi σ5 v0 j9)]) (st := []) rfl rfl (Nat.le_of_ble_eq_true rfl) dL_law_348 w13 h (fun v σ11 h => ?_)
  obtain ⟨r12, rfl, h⟩ := h
  show EV Γ ML_law d 351 [some (.ref v0), some (.ref v1), some (.ref v2), some (.ref v3), some (.ref v4), some (.int v5), some (.int r6), none, none] [.int r12] σ11 Q
  refine EV.istore 353 rfl [some (.ref v0), some (.ref v1), some (.ref v2), some (.ref v3), some (.ref v4), some (.int v5), some (.int r6), some (.int r12), none] (by decide) rfl dL_law_351 ?_
  refine EV.aload_n 354 rfl 2 rfl rfl dL_law_353 ?_
  obtain ⟨w16, h⟩ := h
  refine EV.cV rfl rfl lk_L_147 rfl (vs := []) (st := []) rfl rfl (Nat.le_of_ble_eq_true rfl) dL_law_354 w16 h (fun v σ14 h => ?_)
  obtain ⟨r15, rfl, h⟩ := h
  show EV Γ ML_law d 357 [some (.ref v0), some (.ref v1), some (.ref v2), some (.ref v3), some (.ref v4), some (.int v5), some (.int r6), some (.int r12), none] [.int r15] σ14 Q
  refine EV.iload 359 rfl rfl dL_law_357 ?_
  refine EV.icmp_eq 362 364 rfl (by decide) dL_law_359 (fun c17 => ?_) (fun c17 => ?_)
  · have h := h.1 c17
    refine EV.iload 366 rfl rfl dL_law_364 ?_
    refine EV.if_ne 369 381 rfl (by decide) dL_law_366 (fun c18 => ?_) (fun c18 => ?_)
    · have h := h.1 c18
      refine EV.goto 2703 (by decide) dL_law_381 ?_
      refine EV.mask [true, true, true, true, true, true, false, false, false] (L' := [some (.ref v0), some (.ref v1), some (.ref v2), some (.ref v3), some (.ref v4), some (.int v5), none, none, none]) rfl ?_
      exact h
    · have h := h.2 c18
      refine EV.aload_n 370 rfl 3 rfl rfl dL_law_369 ?_
      refine EV.iconst 371 rfl dL_law_370 (v := 0) (by decide) ?_
      obtain ⟨n20, w19, h⟩ := h
      obtain ⟨j21, x22, h⟩ := h
      refine EV.lald 372 rfl dL_law_371 w19 x22 ?_
      refine EV.iload 374 rfl rfl dL_law_372 ?_
      refine EV.i2l 375 rfl dL_law_374 ?_
      refine EV.lcmp 376 rfl dL_law_375 ?_
      refine EV.if_eq 379 381 rfl (by decide) dL_law_376 (fun c23 => ?_) (fun c23 => ?_)
      · have h := h.1 c23
        refine EV.goto 2703 (by decide) dL_law_381 ?_
        refine EV.mask [true, true, true, true, true, true, false, false, false] (L' := [some (.ref v0), some (.ref v1), some (.ref v2), some (.ref v3), some (.ref v4), some (.int v5), none, none, none]) rfl ?_
        exact h
      · have h := h.2 c23
        refine EV.iconst 380 rfl dL_law_379 (v := 0) (by decide) ?_
        exact EV.zret rfl rfl dL_law_380 h
  · have h := h.2 c17
    refine EV.iconst 363 rfl dL_law_362 (v := 0) (by decide) ?_
    exact EV.zret rfl rfl dL_law_363 h
theorem gL_law_384 {Γ : Gm} {d : Nat} {σ : AH} {Q : Oc → AH → Prop} {v0 : Nat} {v1 : Nat} {v2 : Nat} {v3 : Nat} {v4 : Nat} {v5 : Int32} (h : CI Γ d ML_evaluate [.ref v1, .ref v3] σ (fun r2 σ1 => hs σ1 v2 = some (7, 27) ∧ CI Γ d MX9_evaluate [.ref v2] σ1 (fun r4 σ3 => hs σ3 v2 = some (7, 27) ∧ CI Γ d MX9_thrown [.ref v2] σ3 (fun r7 σ6 => ((r7 = r2 → ((r2 ≠ 0 → EV Γ ML_law d 2703 [some (.ref v0), some (.ref v1), some (.ref v2), some (.ref v3), some (.ref v4), some (.int v5), none, none, none] [] σ6 Q) ∧ (r2 = 0 → ∃ n12 : Nat, hs σ6 v3 = some (23, n12) ∧ ∃ j13 : Nat, IX 0 n12 j13 ∧ (((lg_cmp (gj σ6 v3 j13) (Int32.toInt64 r4)) = 0 → EV Γ ML_law d 2703 [some (.ref v0), some (.ref v1), some (.ref v2), some (.ref v3), some (.ref v4), some (.int v5), none, none, none] [] σ6 Q) ∧ (¬ (lg_cmp (gj σ6 v3 j13) (Int32.toInt64 r4)) = 0 → Q (.inl (some (.int 0))) σ6))))) ∧ (¬ r7 = r2 → Q (.inl (some (.int 0))) σ6))) (fun E σ6 => Q (.inr E) σ6)) (fun E σ3 => Q (.inr E) σ3)) (fun _ _ => False)) : EV Γ ML_law d 384 [some (.ref v0), some (.ref v1), some (.ref v2), some (.ref v3), some (.ref v4), some (.int v5), none, none, none] [] σ Q := by
  refine EV.aload_n 385 rfl 1 rfl rfl dL_law_384 ?_
  refine EV.aload_n 386 rfl 3 rfl rfl dL_law_385 ?_
  refine EV.cSW rfl lk_L_154 rfl (vs := [.ref v1, .ref v3]) (st := []) rfl rfl (Nat.le_of_ble_eq_true rfl) dL_law_386 h (fun v σ1 h => ?_)
  obtain ⟨r2, rfl, h⟩ := h
  show EV Γ ML_law d 389 [some (.ref v0), some (.ref v1), some (.ref v2), some (.ref v3), some (.ref v4), some (.int v5), none, none, none] [.int r2] σ1 Q
  refine EV.istore 391 rfl [some (.ref v0), some (.ref v1), some (.ref v2), some (.ref v3), some (.ref v4), some (.int v5), some (.int r2), none, none] (by decide) rfl dL_law_389 ?_
  refine EV.aload_n 392 rfl 2 rfl rfl dL_law_391 ?_
  obtain ⟨w5, h⟩ := h
  refine EV.cV rfl rfl lk_L_157 rfl (vs := []) (st := []) rfl rfl (Nat.le_of_ble_eq_true rfl) dL_law_392 w5 h (fun v σ3 h => ?_)
  obtain ⟨r4, rfl, h⟩ := h
  show EV Γ ML_law d 395 [some (.ref v0), some (.ref v1), some (.ref v2), some (.ref v3), some (.ref v4), some (.int v5), some (.int r2), none, none] [.int r4] σ3 Q
  refine EV.istore 397 rfl [some (.ref v0), some (.ref v1), some (.ref v2), some (.ref v3), some (.ref v4), some (.int v5), some (.int r2), some (.int r4), none] (by decide) rfl dL_law_395 ?_
  refine EV.aload_n 398 rfl 2 rfl rfl dL_law_397 ?_
  obtain ⟨w8, h⟩ := h
  refine EV.cV rfl rfl lk_L_147 rfl (vs := []) (st := []) rfl rfl (Nat.le_of_ble_eq_true rfl) dL_law_398 w8 h (fun v σ6 h => ?_)
  obtain ⟨r7, rfl, h⟩ := h
  show EV Γ ML_law d 401 [some (.ref v0), some (.ref v1), some (.ref v2), some (.ref v3), some (.ref v4), some (.int v5), some (.int r2), some (.int r4), none] [.int r7] σ6 Q
  refine EV.iload 403 rfl rfl dL_law_401 ?_
  refine EV.icmp_eq 406 408 rfl (by decide) dL_law_403 (fun c9 => ?_) (fun c9 => ?_)
  · have h := h.1 c9
    refine EV.iload 410 rfl rfl dL_law_408 ?_
    refine EV.if_ne 413 425 rfl (by decide) dL_law_410 (fun c10 => ?_) (fun c10 => ?_)
    · have h := h.1 c10
      refine EV.goto 2703 (by decide) dL_law_425 ?_
      refine EV.mask [true, true, true, true, true, true, false, false, false] (L' := [some (.ref v0), some (.ref v1), some (.ref v2), some (.ref v3), some (.ref v4), some (.int v5), none, none, none]) rfl ?_
      exact h
    · have h := h.2 c10
      refine EV.aload_n 414 rfl 3 rfl rfl dL_law_413 ?_
      refine EV.iconst 415 rfl dL_law_414 (v := 0) (by decide) ?_
      obtain ⟨n12, w11, h⟩ := h
      obtain ⟨j13, x14, h⟩ := h
      refine EV.lald 416 rfl dL_law_415 w11 x14 ?_
      refine EV.iload 418 rfl rfl dL_law_416 ?_
      refine EV.i2l 419 rfl dL_law_418 ?_
      refine EV.lcmp 420 rfl dL_law_419 ?_
      refine EV.if_eq 423 425 rfl (by decide) dL_law_420 (fun c15 => ?_) (fun c15 => ?_)
      · have h := h.1 c15
        refine EV.goto 2703 (by decide) dL_law_425 ?_
        refine EV.mask [true, true, true, true, true, true, false, false, false] (L' := [some (.ref v0), some (.ref v1), some (.ref v2), some (.ref v3), some (.ref v4), some (.int v5), none, none, none]) rfl ?_
        exact h
      · have h := h.2 c15
        refine EV.iconst 424 rfl dL_law_423 (v := 0) (by decide) ?_
        exact EV.zret rfl rfl dL_law_424 h
  · have h := h.2 c9
    refine EV.iconst 407 rfl dL_law_406 (v := 0) (by decide) ?_
    exact EV.zret rfl rfl dL_law_407 h
theorem gL_law_428 {Γ : Gm} {d : Nat} {σ : AH} {Q : Oc → AH → Prop} {v0 : Nat} {v1 : Nat} {v2 : Nat} {v3 : Nat} {v4 : Nat} {v5 : Int32} (h : hs σ v1 = some (6, 17) ∧ CI Γ d MX8_errorPosition [.ref v1] σ (fun r2 σ1 => hs σ1 v2 = some (7, 27) ∧ CI Γ d MX9_errorPosition [.ref v2] σ1 (fun r5 σ4 => ((r2 = r5 → EV Γ ML_law d 2703 [some (.ref v0), some (.ref v1), some (.ref v2), some (.ref v3), some (.ref v4), some (.int v5), none, none, none] [] σ4 Q) ∧ (¬ r2 = r5 → Q (.inl (some (.int 0))) σ4))) (fun E σ4 => Q (.inr E) σ4)) (fun E σ1 => Q (.inr E) σ1)) : EV Γ ML_law d 428 [some (.ref v0), some (.ref v1), some (.ref v2), some (.ref v3), some (.ref v4), some (.int v5), none, none, none] [] σ Q := by
  refine EV.aload_n 429 rfl 1 rfl rfl dL_law_428 ?_
  obtain ⟨w3, h⟩ := h
  refine EV.cV rfl rfl lk_L_158 rfl (vs := []) (st := []) rfl rfl (Nat.le_of_ble_eq_true rfl) dL_law_429 w3 h (fun v σ1 h => ?_)
  obtain ⟨r2, rfl, h⟩ := h
  show EV Γ ML_law d 432 [some (.ref v0), some (.ref v1), some (.ref v2), some (.ref v3), some (.ref v4), some (.int v5), none, none, none] [.int r2] σ1 Q
  refine EV.aload_n 433 rfl 2 rfl rfl dL_law_432 ?_
  obtain ⟨w6, h⟩ := h
  refine EV.cV rfl rfl lk_L_161 rfl (vs := []) (st := [.int r2]) rfl rfl (Nat.le_of_ble_eq_true rfl) dL_law_433 w6 h (fun v σ4 h => ?_)
  obtain ⟨r5, rfl, h⟩ := h
  show EV Γ ML_law d 436 [some (.ref v0), some (.ref v1), some (.ref v2), some (.ref v3), some (.ref v4), some (.int v5), none, none, none] [.int r5, .int r2] σ4 Q
  refine EV.icmp_eq 439 2703 rfl (by decide) dL_law_436 (fun c7 => ?_) (fun c7 => ?_)
  · have h := h.1 c7
    exact h
  · have h := h.2 c7
    refine EV.iconst 440 rfl dL_law_439 (v := 0) (by decide) ?_
    exact EV.zret rfl rfl dL_law_440 h
theorem gL_law_441 {Γ : Gm} {d : Nat} {σ : AH} {Q : Oc → AH → Prop} {v0 : Nat} {v1 : Nat} {v2 : Nat} {v3 : Nat} {v4 : Nat} {v5 : Int32} (h : ∃ n2 : Nat, hs σ v0 = some (28, n2) ∧ ∃ j3 : Nat, IX (v5 + 1) n2 j3 ∧ CI Γ d ML_write [.ref v1, .int (gi σ v0 j3), .ref v3] σ (fun r6 σ5 => ∃ n8 : Nat, hs σ5 v0 = some (28, n8) ∧ ∃ j9 : Nat, IX (v5 + 1) n8 j9 ∧ hs σ5 v2 = some (7, 27) ∧ CI Γ d MX9_write [.ref v2, .int (gi σ5 v0 j9)] σ5 (fun r12 σ11 => hs σ11 v2 = some (7, 27) ∧ CI Γ d MX9_thrown [.ref v2] σ11 (fun r15 σ14 => ((r15 = r6 → ((r6 ≠ 0 → EV Γ ML_law d 2703 [some (.ref v0), some (.ref v1), some (.ref v2), some (.ref v3), some (.ref v4), some (.int v5), none, none, none] [] σ14 Q) ∧ (r6 = 0 → ∃ n20 : Nat, hs σ14 v3 = some (23, n20) ∧ ∃ j21 : Nat, IX 0 n20 j21 ∧ (((lg_cmp (gj σ14 v3 j21) (Int32.toInt64 r12)) = 0 → EV Γ ML_law d 2703 [some (.ref v0), some (.ref v1), some (.ref v2), some (.ref v3), some (.ref v4), some (.int v5), none, none, none] [] σ14 Q) ∧ (¬ (lg_cmp (gj σ14 v3 j21) (Int32.toInt64 r12)) = 0 → Q (.inl (some (.int 0))) σ14))))) ∧ (¬ r15 = r6 → Q (.inl (some (.int 0))) σ14))) (fun E σ14 => Q (.inr E) σ14)) (fun E σ11 => Q (.inr E) σ11)) (fun _ _ => False)) : EV Γ ML_law d 441 [some (.ref v0), some (.ref v1), some (.ref v2), some (.ref v3), some (.ref v4), some (.int v5), none, none, none] [] σ Q := by
  refine EV.aload_n 442 rfl 1 rfl rfl dL_law_441 ?_
  refine EV.aload_n 443 rfl 0 rfl rfl dL_law_442 ?_
  refine EV.iload 445 rfl rfl dL_law_443 ?_
  refine EV.iconst 446 rfl dL_law_445 (v := 1) (by decide) ?_
  refine EV.iadd 447 rfl dL_law_446 ?_
  obtain ⟨n2, w1, h⟩ := h
  obtain ⟨j3, x4, h⟩ := h
  refine EV.ialdS 448 rfl dL_law_447 w1 x4 ?_
  refine EV.aload_n 449 rfl 3 rfl rfl dL_law_448 ?_
  refine EV.cSW rfl lk_L_162 rfl (vs := [.ref v1, .int (gi σ v0 j3), .ref v3]) (st := []) rfl rfl (Nat.le_of_ble_eq_true rfl) dL_law_449 h (fun v σ5 h => ?_)
  obtain ⟨r6, rfl, h⟩ := h
  show EV Γ ML_law d 452 [some (.ref v0), some (.ref v1), some (.ref v2), some (.ref v3), some (.ref v4), some (.int v5), none, none, none] [.int r6] σ5 Q
  refine EV.istore 454 rfl [some (.ref v0), some (.ref v1), some (.ref v2), some (.ref v3), some (.ref v4), some (.int v5), some (.int r6), none, none] (by decide) rfl dL_law_452 ?_
  refine EV.aload_n 455 rfl 2 rfl rfl dL_law_454 ?_
  refine EV.aload_n 456 rfl 0 rfl rfl dL_law_455 ?_
  refine EV.iload 458 rfl rfl dL_law_456 ?_
  refine EV.iconst 459 rfl dL_law_458 (v := 1) (by decide) ?_
  refine EV.iadd 460 rfl dL_law_459 ?_
  obtain ⟨n8, w7, h⟩ := h
  obtain ⟨j9, x10, h⟩ := h
  refine EV.ialdS 461 rfl dL_law_460 w7 x10 ?_
  obtain ⟨w13, h⟩ := h
  refine EV.cV rfl rfl lk_L_164 rfl (vs := [.int (gi σ5 v0 j9)]) (st := []) rfl rfl (Nat.le_of_ble_eq_true rfl) dL_law_461 w13 h (fun v σ11 h => ?_)
  obtain ⟨r12, rfl, h⟩ := h
  show EV Γ ML_law d 464 [some (.ref v0), some (.ref v1), some (.ref v2), some (.ref v3), some (.ref v4), some (.int v5), some (.int r6), none, none] [.int r12] σ11 Q
  refine EV.istore 466 rfl [some (.ref v0), some (.ref v1), some (.ref v2), some (.ref v3), some (.ref v4), some (.int v5), some (.int r6), some (.int r12), none] (by decide) rfl dL_law_464 ?_
  refine EV.aload_n 467 rfl 2 rfl rfl dL_law_466 ?_
  obtain ⟨w16, h⟩ := h
  refine EV.cV rfl rfl lk_L_147 rfl (vs := []) (st := []) rfl rfl (Nat.le_of_ble_eq_true rfl) dL_law_467 w16 h (fun v σ14 h => ?_)
  obtain ⟨r15, rfl, h⟩ := h
  show EV Γ ML_law d 470 [some (.ref v0), some (.ref v1), some (.ref v2), some (.ref v3), some (.ref v4), some (.int v5), some (.int r6), some (.int r12), none] [.int r15] σ14 Q
  refine EV.iload 472 rfl rfl dL_law_470 ?_
  refine EV.icmp_eq 475 477 rfl (by decide) dL_law_472 (fun c17 => ?_) (fun c17 => ?_)
  · have h := h.1 c17
    refine EV.iload 479 rfl rfl dL_law_477 ?_
    refine EV.if_ne 482 494 rfl (by decide) dL_law_479 (fun c18 => ?_) (fun c18 => ?_)
    · have h := h.1 c18
      refine EV.goto 2703 (by decide) dL_law_494 ?_
      refine EV.mask [true, true, true, true, true, true, false, false, false] (L' := [some (.ref v0), some (.ref v1), some (.ref v2), some (.ref v3), some (.ref v4), some (.int v5), none, none, none]) rfl ?_
      exact h
    · have h := h.2 c18
      refine EV.aload_n 483 rfl 3 rfl rfl dL_law_482 ?_
      refine EV.iconst 484 rfl dL_law_483 (v := 0) (by decide) ?_
      obtain ⟨n20, w19, h⟩ := h
      obtain ⟨j21, x22, h⟩ := h
      refine EV.lald 485 rfl dL_law_484 w19 x22 ?_
      refine EV.iload 487 rfl rfl dL_law_485 ?_
      refine EV.i2l 488 rfl dL_law_487 ?_
      refine EV.lcmp 489 rfl dL_law_488 ?_
      refine EV.if_eq 492 494 rfl (by decide) dL_law_489 (fun c23 => ?_) (fun c23 => ?_)
      · have h := h.1 c23
        refine EV.goto 2703 (by decide) dL_law_494 ?_
        refine EV.mask [true, true, true, true, true, true, false, false, false] (L' := [some (.ref v0), some (.ref v1), some (.ref v2), some (.ref v3), some (.ref v4), some (.int v5), none, none, none]) rfl ?_
        exact h
      · have h := h.2 c23
        refine EV.iconst 493 rfl dL_law_492 (v := 0) (by decide) ?_
        exact EV.zret rfl rfl dL_law_493 h
  · have h := h.2 c17
    refine EV.iconst 476 rfl dL_law_475 (v := 0) (by decide) ?_
    exact EV.zret rfl rfl dL_law_476 h
theorem gL_law_497 {Γ : Gm} {d : Nat} {σ : AH} {Q : Oc → AH → Prop} {v0 : Nat} {v1 : Nat} {v2 : Nat} {v3 : Nat} {v4 : Nat} {v5 : Int32} (h : ∃ n2 : Nat, hs σ v0 = some (28, n2) ∧ ∃ j3 : Nat, IX (v5 + 1) n2 j3 ∧ CI Γ d ML_outputByte [.ref v1, .int (gi σ v0 j3), .ref v3] σ (fun r6 σ5 => ∃ n8 : Nat, hs σ5 v0 = some (28, n8) ∧ ∃ j9 : Nat, IX (v5 + 1) n8 j9 ∧ hs σ5 v2 = some (7, 27) ∧ CI Γ d MX9_outputByte [.ref v2, .int (gi σ5 v0 j9)] σ5 (fun r12 σ11 => hs σ11 v2 = some (7, 27) ∧ CI Γ d MX9_thrown [.ref v2] σ11 (fun r15 σ14 => ((r15 = r6 → ((r6 ≠ 0 → EV Γ ML_law d 2703 [some (.ref v0), some (.ref v1), some (.ref v2), some (.ref v3), some (.ref v4), some (.int v5), none, none, none] [] σ14 Q) ∧ (r6 = 0 → ∃ n20 : Nat, hs σ14 v3 = some (23, n20) ∧ ∃ j21 : Nat, IX 0 n20 j21 ∧ (((lg_cmp (gj σ14 v3 j21) (Int32.toInt64 r12)) = 0 → EV Γ ML_law d 2703 [some (.ref v0), some (.ref v1), some (.ref v2), some (.ref v3), some (.ref v4), some (.int v5), none, none, none] [] σ14 Q) ∧ (¬ (lg_cmp (gj σ14 v3 j21) (Int32.toInt64 r12)) = 0 → Q (.inl (some (.int 0))) σ14))))) ∧ (¬ r15 = r6 → Q (.inl (some (.int 0))) σ14))) (fun E σ14 => Q (.inr E) σ14)) (fun E σ11 => Q (.inr E) σ11)) (fun _ _ => False)) : EV Γ ML_law d 497 [some (.ref v0), some (.ref v1), some (.ref v2), some (.ref v3), some (.ref v4), some (.int v5), none, none, none] [] σ Q := by
  refine EV.aload_n 498 rfl 1 rfl rfl dL_law_497 ?_
  refine EV.aload_n 499 rfl 0 rfl rfl dL_law_498 ?_
  refine EV.iload 501 rfl rfl dL_law_499 ?_
  refine EV.iconst 502 rfl dL_law_501 (v := 1) (by decide) ?_
  refine EV.iadd 503 rfl dL_law_502 ?_
  obtain ⟨n2, w1, h⟩ := h
  obtain ⟨j3, x4, h⟩ := h
  refine EV.ialdS 504 rfl dL_law_503 w1 x4 ?_
  refine EV.aload_n 505 rfl 3 rfl rfl dL_law_504 ?_
  refine EV.cSW rfl lk_L_165 rfl (vs := [.ref v1, .int (gi σ v0 j3), .ref v3]) (st := []) rfl rfl (Nat.le_of_ble_eq_true rfl) dL_law_505 h (fun v σ5 h => ?_)
  obtain ⟨r6, rfl, h⟩ := h
  show EV Γ ML_law d 508 [some (.ref v0), some (.ref v1), some (.ref v2), some (.ref v3), some (.ref v4), some (.int v5), none, none, none] [.int r6] σ5 Q
  refine EV.istore 510 rfl [some (.ref v0), some (.ref v1), some (.ref v2), some (.ref v3), some (.ref v4), some (.int v5), some (.int r6), none, none] (by decide) rfl dL_law_508 ?_
  refine EV.aload_n 511 rfl 2 rfl rfl dL_law_510 ?_
  refine EV.aload_n 512 rfl 0 rfl rfl dL_law_511 ?_
  refine EV.iload 514 rfl rfl dL_law_512 ?_
  refine EV.iconst 515 rfl dL_law_514 (v := 1) (by decide) ?_
  refine EV.iadd 516 rfl dL_law_515 ?_
  obtain ⟨n8, w7, h⟩ := h
  obtain ⟨j9, x10, h⟩ := h
  refine EV.ialdS 517 rfl dL_law_516 w7 x10 ?_
  obtain ⟨w13, h⟩ := h
  refine EV.cV rfl rfl lk_L_167 rfl (vs := [.int (gi σ5 v0 j9)]) (st := []) rfl rfl (Nat.le_of_ble_eq_true rfl) dL_law_517 w13 h (fun v σ11 h => ?_)
  obtain ⟨r12, rfl, h⟩ := h
  show EV Γ ML_law d 520 [some (.ref v0), some (.ref v1), some (.ref v2), some (.ref v3), some (.ref v4), some (.int v5), some (.int r6), none, none] [.int r12] σ11 Q
  refine EV.istore 522 rfl [some (.ref v0), some (.ref v1), some (.ref v2), some (.ref v3), some (.ref v4), some (.int v5), some (.int r6), some (.int r12), none] (by decide) rfl dL_law_520 ?_
  refine EV.aload_n 523 rfl 2 rfl rfl dL_law_522 ?_
  obtain ⟨w16, h⟩ := h
  refine EV.cV rfl rfl lk_L_147 rfl (vs := []) (st := []) rfl rfl (Nat.le_of_ble_eq_true rfl) dL_law_523 w16 h (fun v σ14 h => ?_)
  obtain ⟨r15, rfl, h⟩ := h
  show EV Γ ML_law d 526 [some (.ref v0), some (.ref v1), some (.ref v2), some (.ref v3), some (.ref v4), some (.int v5), some (.int r6), some (.int r12), none] [.int r15] σ14 Q
  refine EV.iload 528 rfl rfl dL_law_526 ?_
  refine EV.icmp_eq 531 533 rfl (by decide) dL_law_528 (fun c17 => ?_) (fun c17 => ?_)
  · have h := h.1 c17
    refine EV.iload 535 rfl rfl dL_law_533 ?_
    refine EV.if_ne 538 550 rfl (by decide) dL_law_535 (fun c18 => ?_) (fun c18 => ?_)
    · have h := h.1 c18
      refine EV.goto 2703 (by decide) dL_law_550 ?_
      refine EV.mask [true, true, true, true, true, true, false, false, false] (L' := [some (.ref v0), some (.ref v1), some (.ref v2), some (.ref v3), some (.ref v4), some (.int v5), none, none, none]) rfl ?_
      exact h
    · have h := h.2 c18
      refine EV.aload_n 539 rfl 3 rfl rfl dL_law_538 ?_
      refine EV.iconst 540 rfl dL_law_539 (v := 0) (by decide) ?_
      obtain ⟨n20, w19, h⟩ := h
      obtain ⟨j21, x22, h⟩ := h
      refine EV.lald 541 rfl dL_law_540 w19 x22 ?_
      refine EV.iload 543 rfl rfl dL_law_541 ?_
      refine EV.i2l 544 rfl dL_law_543 ?_
      refine EV.lcmp 545 rfl dL_law_544 ?_
      refine EV.if_eq 548 550 rfl (by decide) dL_law_545 (fun c23 => ?_) (fun c23 => ?_)
      · have h := h.1 c23
        refine EV.goto 2703 (by decide) dL_law_550 ?_
        refine EV.mask [true, true, true, true, true, true, false, false, false] (L' := [some (.ref v0), some (.ref v1), some (.ref v2), some (.ref v3), some (.ref v4), some (.int v5), none, none, none]) rfl ?_
        exact h
      · have h := h.2 c23
        refine EV.iconst 549 rfl dL_law_548 (v := 0) (by decide) ?_
        exact EV.zret rfl rfl dL_law_549 h
  · have h := h.2 c17
    refine EV.iconst 532 rfl dL_law_531 (v := 0) (by decide) ?_
    exact EV.zret rfl rfl dL_law_532 h
theorem gL_law_553 {Γ : Gm} {d : Nat} {σ : AH} {Q : Oc → AH → Prop} {v0 : Nat} {v1 : Nat} {v2 : Nat} {v3 : Nat} {v4 : Nat} {v5 : Int32} (h : ∃ n2 : Nat, hs σ v0 = some (28, n2) ∧ ∃ j3 : Nat, IX (v5 + 1) n2 j3 ∧ CI Γ d ML_single [.ref v1, .int (gi σ v0 j3), .ref v3] σ (fun r6 σ5 => ∃ n8 : Nat, hs σ5 v0 = some (28, n8) ∧ ∃ j9 : Nat, IX (v5 + 1) n8 j9 ∧ hs σ5 v2 = some (7, 27) ∧ CI Γ d MX9_single [.ref v2, .int (gi σ5 v0 j9)] σ5 (fun r12 σ11 => hs σ11 v2 = some (7, 27) ∧ CI Γ d MX9_thrown [.ref v2] σ11 (fun r15 σ14 => ((r15 = r6 → ((r6 ≠ 0 → EV Γ ML_law d 2703 [some (.ref v0), some (.ref v1), some (.ref v2), some (.ref v3), some (.ref v4), some (.int v5), none, none, none] [] σ14 Q) ∧ (r6 = 0 → ∃ n20 : Nat, hs σ14 v3 = some (23, n20) ∧ ∃ j21 : Nat, IX 0 n20 j21 ∧ (((lg_cmp (gj σ14 v3 j21) (Int32.toInt64 r12)) = 0 → EV Γ ML_law d 2703 [some (.ref v0), some (.ref v1), some (.ref v2), some (.ref v3), some (.ref v4), some (.int v5), none, none, none] [] σ14 Q) ∧ (¬ (lg_cmp (gj σ14 v3 j21) (Int32.toInt64 r12)) = 0 → Q (.inl (some (.int 0))) σ14))))) ∧ (¬ r15 = r6 → Q (.inl (some (.int 0))) σ14))) (fun E σ14 => Q (.inr E) σ14)) (fun E σ11 => Q (.inr E) σ11)) (fun _ _ => False)) : EV Γ ML_law d 553 [some (.ref v0), some (.ref v1), some (.ref v2), some (.ref v3), some (.ref v4), some (.int v5), none, none, none] [] σ Q := by
  refine EV.aload_n 554 rfl 1 rfl rfl dL_law_553 ?_
  refine EV.aload_n 555 rfl 0 rfl rfl dL_law_554 ?_
  refine EV.iload 557 rfl rfl dL_law_555 ?_
  refine EV.iconst 558 rfl dL_law_557 (v := 1) (by decide) ?_
  refine EV.iadd 559 rfl dL_law_558 ?_
  obtain ⟨n2, w1, h⟩ := h
  obtain ⟨j3, x4, h⟩ := h
  refine EV.ialdS 560 rfl dL_law_559 w1 x4 ?_
  refine EV.aload_n 561 rfl 3 rfl rfl dL_law_560 ?_
  refine EV.cSW rfl lk_L_168 rfl (vs := [.ref v1, .int (gi σ v0 j3), .ref v3]) (st := []) rfl rfl (Nat.le_of_ble_eq_true rfl) dL_law_561 h (fun v σ5 h => ?_)
  obtain ⟨r6, rfl, h⟩ := h
  show EV Γ ML_law d 564 [some (.ref v0), some (.ref v1), some (.ref v2), some (.ref v3), some (.ref v4), some (.int v5), none, none, none] [.int r6] σ5 Q
  refine EV.istore 566 rfl [some (.ref v0), some (.ref v1), some (.ref v2), some (.ref v3), some (.ref v4), some (.int v5), some (.int r6), none, none] (by decide) rfl dL_law_564 ?_
  refine EV.aload_n 567 rfl 2 rfl rfl dL_law_566 ?_
  refine EV.aload_n 568 rfl 0 rfl rfl dL_law_567 ?_
  refine EV.iload 570 rfl rfl dL_law_568 ?_
  refine EV.iconst 571 rfl dL_law_570 (v := 1) (by decide) ?_
  refine EV.iadd 572 rfl dL_law_571 ?_
  obtain ⟨n8, w7, h⟩ := h
  obtain ⟨j9, x10, h⟩ := h
  refine EV.ialdS 573 rfl dL_law_572 w7 x10 ?_
  obtain ⟨w13, h⟩ := h
  refine EV.cV rfl rfl lk_L_170 rfl (vs := [.int (gi σ5 v0 j9)]) (st := []) rfl rfl (Nat.le_of_ble_eq_true rfl) dL_law_573 w13 h (fun v σ11 h => ?_)
  obtain ⟨r12, rfl, h⟩ := h
  show EV Γ ML_law d 576 [some (.ref v0), some (.ref v1), some (.ref v2), some (.ref v3), some (.ref v4), some (.int v5), some (.int r6), none, none] [.int r12] σ11 Q
  refine EV.istore 578 rfl [some (.ref v0), some (.ref v1), some (.ref v2), some (.ref v3), some (.ref v4), some (.int v5), some (.int r6), some (.int r12), none] (by decide) rfl dL_law_576 ?_
  refine EV.aload_n 579 rfl 2 rfl rfl dL_law_578 ?_
  obtain ⟨w16, h⟩ := h
  refine EV.cV rfl rfl lk_L_147 rfl (vs := []) (st := []) rfl rfl (Nat.le_of_ble_eq_true rfl) dL_law_579 w16 h (fun v σ14 h => ?_)
  obtain ⟨r15, rfl, h⟩ := h
  show EV Γ ML_law d 582 [some (.ref v0), some (.ref v1), some (.ref v2), some (.ref v3), some (.ref v4), some (.int v5), some (.int r6), some (.int r12), none] [.int r15] σ14 Q
  refine EV.iload 584 rfl rfl dL_law_582 ?_
  refine EV.icmp_eq 587 589 rfl (by decide) dL_law_584 (fun c17 => ?_) (fun c17 => ?_)
  · have h := h.1 c17
    refine EV.iload 591 rfl rfl dL_law_589 ?_
    refine EV.if_ne 594 606 rfl (by decide) dL_law_591 (fun c18 => ?_) (fun c18 => ?_)
    · have h := h.1 c18
      refine EV.goto 2703 (by decide) dL_law_606 ?_
      refine EV.mask [true, true, true, true, true, true, false, false, false] (L' := [some (.ref v0), some (.ref v1), some (.ref v2), some (.ref v3), some (.ref v4), some (.int v5), none, none, none]) rfl ?_
      exact h
    · have h := h.2 c18
      refine EV.aload_n 595 rfl 3 rfl rfl dL_law_594 ?_
      refine EV.iconst 596 rfl dL_law_595 (v := 0) (by decide) ?_
      obtain ⟨n20, w19, h⟩ := h
      obtain ⟨j21, x22, h⟩ := h
      refine EV.lald 597 rfl dL_law_596 w19 x22 ?_
      refine EV.iload 599 rfl rfl dL_law_597 ?_
      refine EV.i2l 600 rfl dL_law_599 ?_
      refine EV.lcmp 601 rfl dL_law_600 ?_
      refine EV.if_eq 604 606 rfl (by decide) dL_law_601 (fun c23 => ?_) (fun c23 => ?_)
      · have h := h.1 c23
        refine EV.goto 2703 (by decide) dL_law_606 ?_
        refine EV.mask [true, true, true, true, true, true, false, false, false] (L' := [some (.ref v0), some (.ref v1), some (.ref v2), some (.ref v3), some (.ref v4), some (.int v5), none, none, none]) rfl ?_
        exact h
      · have h := h.2 c23
        refine EV.iconst 605 rfl dL_law_604 (v := 0) (by decide) ?_
        exact EV.zret rfl rfl dL_law_605 h
  · have h := h.2 c17
    refine EV.iconst 588 rfl dL_law_587 (v := 0) (by decide) ?_
    exact EV.zret rfl rfl dL_law_588 h
theorem gL_law_609 {Γ : Gm} {d : Nat} {σ : AH} {Q : Oc → AH → Prop} {v0 : Nat} {v1 : Nat} {v2 : Nat} {v3 : Nat} {v4 : Nat} {v5 : Int32} (h : ∃ n2 : Nat, hs σ v0 = some (28, n2) ∧ ∃ j3 : Nat, IX (v5 + 1) n2 j3 ∧ ∃ j5 : Nat, IX (v5 + 2) n2 j5 ∧ CI Γ d ML_subsetsOf [.ref v1, .int (gi σ v0 j3), .int (gi σ v0 j5), .ref v3] σ (fun r8 σ7 => ∃ n10 : Nat, hs σ7 v0 = some (28, n10) ∧ ∃ j11 : Nat, IX (v5 + 1) n10 j11 ∧ ∃ j13 : Nat, IX (v5 + 2) n10 j13 ∧ hs σ7 v2 = some (7, 27) ∧ CI Γ d MX9_subsetsOf [.ref v2, .int (gi σ7 v0 j11), .int (gi σ7 v0 j13)] σ7 (fun r16 σ15 => hs σ15 v2 = some (7, 27) ∧ CI Γ d MX9_thrown [.ref v2] σ15 (fun r19 σ18 => ((r19 = r8 → ((r8 ≠ 0 → EV Γ ML_law d 2703 [some (.ref v0), some (.ref v1), some (.ref v2), some (.ref v3), some (.ref v4), some (.int v5), none, none, none] [] σ18 Q) ∧ (r8 = 0 → ∃ n24 : Nat, hs σ18 v3 = some (23, n24) ∧ ∃ j25 : Nat, IX 0 n24 j25 ∧ (((lg_cmp (gj σ18 v3 j25) (Int32.toInt64 r16)) = 0 → EV Γ ML_law d 2703 [some (.ref v0), some (.ref v1), some (.ref v2), some (.ref v3), some (.ref v4), some (.int v5), none, none, none] [] σ18 Q) ∧ (¬ (lg_cmp (gj σ18 v3 j25) (Int32.toInt64 r16)) = 0 → Q (.inl (some (.int 0))) σ18))))) ∧ (¬ r19 = r8 → Q (.inl (some (.int 0))) σ18))) (fun E σ18 => Q (.inr E) σ18)) (fun E σ15 => Q (.inr E) σ15)) (fun _ _ => False)) : EV Γ ML_law d 609 [some (.ref v0), some (.ref v1), some (.ref v2), some (.ref v3), some (.ref v4), some (.int v5), none, none, none] [] σ Q := by
  refine EV.aload_n 610 rfl 1 rfl rfl dL_law_609 ?_
  refine EV.aload_n 611 rfl 0 rfl rfl dL_law_610 ?_
  refine EV.iload 613 rfl rfl dL_law_611 ?_
  refine EV.iconst 614 rfl dL_law_613 (v := 1) (by decide) ?_
  refine EV.iadd 615 rfl dL_law_614 ?_
  obtain ⟨n2, w1, h⟩ := h
  obtain ⟨j3, x4, h⟩ := h
  refine EV.ialdS 616 rfl dL_law_615 w1 x4 ?_
  refine EV.aload_n 617 rfl 0 rfl rfl dL_law_616 ?_
  refine EV.iload 619 rfl rfl dL_law_617 ?_
  refine EV.iconst 620 rfl dL_law_619 (v := 2) (by decide) ?_
  refine EV.iadd 621 rfl dL_law_620 ?_
  obtain ⟨j5, x6, h⟩ := h
  refine EV.ialdS 622 rfl dL_law_621 w1 x6 ?_
  refine EV.aload_n 623 rfl 3 rfl rfl dL_law_622 ?_
  refine EV.cSW rfl lk_L_171 rfl (vs := [.ref v1, .int (gi σ v0 j3), .int (gi σ v0 j5), .ref v3]) (st := []) rfl rfl (Nat.le_of_ble_eq_true rfl) dL_law_623 h (fun v σ7 h => ?_)
  obtain ⟨r8, rfl, h⟩ := h
  show EV Γ ML_law d 626 [some (.ref v0), some (.ref v1), some (.ref v2), some (.ref v3), some (.ref v4), some (.int v5), none, none, none] [.int r8] σ7 Q
  refine EV.istore 628 rfl [some (.ref v0), some (.ref v1), some (.ref v2), some (.ref v3), some (.ref v4), some (.int v5), some (.int r8), none, none] (by decide) rfl dL_law_626 ?_
  refine EV.aload_n 629 rfl 2 rfl rfl dL_law_628 ?_
  refine EV.aload_n 630 rfl 0 rfl rfl dL_law_629 ?_
  refine EV.iload 632 rfl rfl dL_law_630 ?_
  refine EV.iconst 633 rfl dL_law_632 (v := 1) (by decide) ?_
  refine EV.iadd 634 rfl dL_law_633 ?_
  obtain ⟨n10, w9, h⟩ := h
  obtain ⟨j11, x12, h⟩ := h
  refine EV.ialdS 635 rfl dL_law_634 w9 x12 ?_
  refine EV.aload_n 636 rfl 0 rfl rfl dL_law_635 ?_
  refine EV.iload 638 rfl rfl dL_law_636 ?_
  refine EV.iconst 639 rfl dL_law_638 (v := 2) (by decide) ?_
  refine EV.iadd 640 rfl dL_law_639 ?_
  obtain ⟨j13, x14, h⟩ := h
  refine EV.ialdS 641 rfl dL_law_640 w9 x14 ?_
  obtain ⟨w17, h⟩ := h
  refine EV.cV rfl rfl lk_L_174 rfl (vs := [.int (gi σ7 v0 j11), .int (gi σ7 v0 j13)]) (st := []) rfl rfl (Nat.le_of_ble_eq_true rfl) dL_law_641 w17 h (fun v σ15 h => ?_)
  obtain ⟨r16, rfl, h⟩ := h
  show EV Γ ML_law d 644 [some (.ref v0), some (.ref v1), some (.ref v2), some (.ref v3), some (.ref v4), some (.int v5), some (.int r8), none, none] [.int r16] σ15 Q
  refine EV.istore 646 rfl [some (.ref v0), some (.ref v1), some (.ref v2), some (.ref v3), some (.ref v4), some (.int v5), some (.int r8), some (.int r16), none] (by decide) rfl dL_law_644 ?_
  refine EV.aload_n 647 rfl 2 rfl rfl dL_law_646 ?_
  obtain ⟨w20, h⟩ := h
  refine EV.cV rfl rfl lk_L_147 rfl (vs := []) (st := []) rfl rfl (Nat.le_of_ble_eq_true rfl) dL_law_647 w20 h (fun v σ18 h => ?_)
  obtain ⟨r19, rfl, h⟩ := h
  show EV Γ ML_law d 650 [some (.ref v0), some (.ref v1), some (.ref v2), some (.ref v3), some (.ref v4), some (.int v5), some (.int r8), some (.int r16), none] [.int r19] σ18 Q
  refine EV.iload 652 rfl rfl dL_law_650 ?_
  refine EV.icmp_eq 655 657 rfl (by decide) dL_law_652 (fun c21 => ?_) (fun c21 => ?_)
  · have h := h.1 c21
    refine EV.iload 659 rfl rfl dL_law_657 ?_
    refine EV.if_ne 662 674 rfl (by decide) dL_law_659 (fun c22 => ?_) (fun c22 => ?_)
    · have h := h.1 c22
      refine EV.goto 2703 (by decide) dL_law_674 ?_
      refine EV.mask [true, true, true, true, true, true, false, false, false] (L' := [some (.ref v0), some (.ref v1), some (.ref v2), some (.ref v3), some (.ref v4), some (.int v5), none, none, none]) rfl ?_
      exact h
    · have h := h.2 c22
      refine EV.aload_n 663 rfl 3 rfl rfl dL_law_662 ?_
      refine EV.iconst 664 rfl dL_law_663 (v := 0) (by decide) ?_
      obtain ⟨n24, w23, h⟩ := h
      obtain ⟨j25, x26, h⟩ := h
      refine EV.lald 665 rfl dL_law_664 w23 x26 ?_
      refine EV.iload 667 rfl rfl dL_law_665 ?_
      refine EV.i2l 668 rfl dL_law_667 ?_
      refine EV.lcmp 669 rfl dL_law_668 ?_
      refine EV.if_eq 672 674 rfl (by decide) dL_law_669 (fun c27 => ?_) (fun c27 => ?_)
      · have h := h.1 c27
        refine EV.goto 2703 (by decide) dL_law_674 ?_
        refine EV.mask [true, true, true, true, true, true, false, false, false] (L' := [some (.ref v0), some (.ref v1), some (.ref v2), some (.ref v3), some (.ref v4), some (.int v5), none, none, none]) rfl ?_
        exact h
      · have h := h.2 c27
        refine EV.iconst 673 rfl dL_law_672 (v := 0) (by decide) ?_
        exact EV.zret rfl rfl dL_law_673 h
  · have h := h.2 c21
    refine EV.iconst 656 rfl dL_law_655 (v := 0) (by decide) ?_
    exact EV.zret rfl rfl dL_law_656 h
theorem gL_law_677 {Γ : Gm} {d : Nat} {σ : AH} {Q : Oc → AH → Prop} {v0 : Nat} {v1 : Nat} {v2 : Nat} {v3 : Nat} {v4 : Nat} {v5 : Int32} (h : ∃ n2 : Nat, hs σ v0 = some (28, n2) ∧ ∃ j3 : Nat, IX (v5 + 1) n2 j3 ∧ CI Γ d ML_release [.ref v1, .int (gi σ v0 j3), .ref v3] σ (fun r6 σ5 => ∃ n8 : Nat, hs σ5 v0 = some (28, n8) ∧ ∃ j9 : Nat, IX (v5 + 1) n8 j9 ∧ hs σ5 v2 = some (7, 27) ∧ CI Γ d MX9_release [.ref v2, .int (gi σ5 v0 j9)] σ5 (fun r12 σ11 => hs σ11 v2 = some (7, 27) ∧ CI Γ d MX9_thrown [.ref v2] σ11 (fun r15 σ14 => ((r15 = r6 → ((r6 ≠ 0 → EV Γ ML_law d 2703 [some (.ref v0), some (.ref v1), some (.ref v2), some (.ref v3), some (.ref v4), some (.int v5), none, none, none] [] σ14 Q) ∧ (r6 = 0 → ∃ n20 : Nat, hs σ14 v3 = some (23, n20) ∧ ∃ j21 : Nat, IX 0 n20 j21 ∧ (((lg_cmp (gj σ14 v3 j21) (Int32.toInt64 r12)) = 0 → EV Γ ML_law d 2703 [some (.ref v0), some (.ref v1), some (.ref v2), some (.ref v3), some (.ref v4), some (.int v5), none, none, none] [] σ14 Q) ∧ (¬ (lg_cmp (gj σ14 v3 j21) (Int32.toInt64 r12)) = 0 → Q (.inl (some (.int 0))) σ14))))) ∧ (¬ r15 = r6 → Q (.inl (some (.int 0))) σ14))) (fun E σ14 => Q (.inr E) σ14)) (fun E σ11 => Q (.inr E) σ11)) (fun _ _ => False)) : EV Γ ML_law d 677 [some (.ref v0), some (.ref v1), some (.ref v2), some (.ref v3), some (.ref v4), some (.int v5), none, none, none] [] σ Q := by
  refine EV.aload_n 678 rfl 1 rfl rfl dL_law_677 ?_
  refine EV.aload_n 679 rfl 0 rfl rfl dL_law_678 ?_
  refine EV.iload 681 rfl rfl dL_law_679 ?_
  refine EV.iconst 682 rfl dL_law_681 (v := 1) (by decide) ?_
  refine EV.iadd 683 rfl dL_law_682 ?_
  obtain ⟨n2, w1, h⟩ := h
  obtain ⟨j3, x4, h⟩ := h
  refine EV.ialdS 684 rfl dL_law_683 w1 x4 ?_
  refine EV.aload_n 685 rfl 3 rfl rfl dL_law_684 ?_
  refine EV.cSW rfl lk_L_175 rfl (vs := [.ref v1, .int (gi σ v0 j3), .ref v3]) (st := []) rfl rfl (Nat.le_of_ble_eq_true rfl) dL_law_685 h (fun v σ5 h => ?_)
  obtain ⟨r6, rfl, h⟩ := h
  show EV Γ ML_law d 688 [some (.ref v0), some (.ref v1), some (.ref v2), some (.ref v3), some (.ref v4), some (.int v5), none, none, none] [.int r6] σ5 Q
  refine EV.istore 690 rfl [some (.ref v0), some (.ref v1), some (.ref v2), some (.ref v3), some (.ref v4), some (.int v5), some (.int r6), none, none] (by decide) rfl dL_law_688 ?_
  refine EV.aload_n 691 rfl 2 rfl rfl dL_law_690 ?_
  refine EV.aload_n 692 rfl 0 rfl rfl dL_law_691 ?_
  refine EV.iload 694 rfl rfl dL_law_692 ?_
  refine EV.iconst 695 rfl dL_law_694 (v := 1) (by decide) ?_
  refine EV.iadd 696 rfl dL_law_695 ?_
  obtain ⟨n8, w7, h⟩ := h
  obtain ⟨j9, x10, h⟩ := h
  refine EV.ialdS 697 rfl dL_law_696 w7 x10 ?_
  obtain ⟨w13, h⟩ := h
  refine EV.cV rfl rfl lk_L_177 rfl (vs := [.int (gi σ5 v0 j9)]) (st := []) rfl rfl (Nat.le_of_ble_eq_true rfl) dL_law_697 w13 h (fun v σ11 h => ?_)
  obtain ⟨r12, rfl, h⟩ := h
  show EV Γ ML_law d 700 [some (.ref v0), some (.ref v1), some (.ref v2), some (.ref v3), some (.ref v4), some (.int v5), some (.int r6), none, none] [.int r12] σ11 Q
  refine EV.istore 702 rfl [some (.ref v0), some (.ref v1), some (.ref v2), some (.ref v3), some (.ref v4), some (.int v5), some (.int r6), some (.int r12), none] (by decide) rfl dL_law_700 ?_
  refine EV.aload_n 703 rfl 2 rfl rfl dL_law_702 ?_
  obtain ⟨w16, h⟩ := h
  refine EV.cV rfl rfl lk_L_147 rfl (vs := []) (st := []) rfl rfl (Nat.le_of_ble_eq_true rfl) dL_law_703 w16 h (fun v σ14 h => ?_)
  obtain ⟨r15, rfl, h⟩ := h
  show EV Γ ML_law d 706 [some (.ref v0), some (.ref v1), some (.ref v2), some (.ref v3), some (.ref v4), some (.int v5), some (.int r6), some (.int r12), none] [.int r15] σ14 Q
  refine EV.iload 708 rfl rfl dL_law_706 ?_
  refine EV.icmp_eq 711 713 rfl (by decide) dL_law_708 (fun c17 => ?_) (fun c17 => ?_)
  · have h := h.1 c17
    refine EV.iload 715 rfl rfl dL_law_713 ?_
    refine EV.if_ne 718 730 rfl (by decide) dL_law_715 (fun c18 => ?_) (fun c18 => ?_)
    · have h := h.1 c18
      refine EV.goto 2703 (by decide) dL_law_730 ?_
      refine EV.mask [true, true, true, true, true, true, false, false, false] (L' := [some (.ref v0), some (.ref v1), some (.ref v2), some (.ref v3), some (.ref v4), some (.int v5), none, none, none]) rfl ?_
      exact h
    · have h := h.2 c18
      refine EV.aload_n 719 rfl 3 rfl rfl dL_law_718 ?_
      refine EV.iconst 720 rfl dL_law_719 (v := 0) (by decide) ?_
      obtain ⟨n20, w19, h⟩ := h
      obtain ⟨j21, x22, h⟩ := h
      refine EV.lald 721 rfl dL_law_720 w19 x22 ?_
      refine EV.iload 723 rfl rfl dL_law_721 ?_
      refine EV.i2l 724 rfl dL_law_723 ?_
      refine EV.lcmp 725 rfl dL_law_724 ?_
      refine EV.if_eq 728 730 rfl (by decide) dL_law_725 (fun c23 => ?_) (fun c23 => ?_)
      · have h := h.1 c23
        refine EV.goto 2703 (by decide) dL_law_730 ?_
        refine EV.mask [true, true, true, true, true, true, false, false, false] (L' := [some (.ref v0), some (.ref v1), some (.ref v2), some (.ref v3), some (.ref v4), some (.int v5), none, none, none]) rfl ?_
        exact h
      · have h := h.2 c23
        refine EV.iconst 729 rfl dL_law_728 (v := 0) (by decide) ?_
        exact EV.zret rfl rfl dL_law_729 h
  · have h := h.2 c17
    refine EV.iconst 712 rfl dL_law_711 (v := 0) (by decide) ?_
    exact EV.zret rfl rfl dL_law_712 h
theorem gL_law_733 {Γ : Gm} {d : Nat} {σ : AH} {Q : Oc → AH → Prop} {v0 : Nat} {v1 : Nat} {v2 : Nat} {v3 : Nat} {v4 : Nat} {v5 : Int32} (h : hs σ v1 = some (6, 17) ∧ CI Γ d MX8_createdCount [.ref v1] σ (fun r2 σ1 => hs σ1 v2 = some (7, 27) ∧ CI Γ d MX9_createdCount [.ref v2] σ1 (fun r5 σ4 => ((r2 = r5 → EV Γ ML_law d 2703 [some (.ref v0), some (.ref v1), some (.ref v2), some (.ref v3), some (.ref v4), some (.int v5), none, none, none] [] σ4 Q) ∧ (¬ r2 = r5 → Q (.inl (some (.int 0))) σ4))) (fun E σ4 => Q (.inr E) σ4)) (fun E σ1 => Q (.inr E) σ1)) : EV Γ ML_law d 733 [some (.ref v0), some (.ref v1), some (.ref v2), some (.ref v3), some (.ref v4), some (.int v5), none, none, none] [] σ Q := by
  refine EV.aload_n 734 rfl 1 rfl rfl dL_law_733 ?_
  obtain ⟨w3, h⟩ := h
  refine EV.cV rfl rfl lk_L_178 rfl (vs := []) (st := []) rfl rfl (Nat.le_of_ble_eq_true rfl) dL_law_734 w3 h (fun v σ1 h => ?_)
  obtain ⟨r2, rfl, h⟩ := h
  show EV Γ ML_law d 737 [some (.ref v0), some (.ref v1), some (.ref v2), some (.ref v3), some (.ref v4), some (.int v5), none, none, none] [.int r2] σ1 Q
  refine EV.aload_n 738 rfl 2 rfl rfl dL_law_737 ?_
  obtain ⟨w6, h⟩ := h
  refine EV.cV rfl rfl lk_L_181 rfl (vs := []) (st := [.int r2]) rfl rfl (Nat.le_of_ble_eq_true rfl) dL_law_738 w6 h (fun v σ4 h => ?_)
  obtain ⟨r5, rfl, h⟩ := h
  show EV Γ ML_law d 741 [some (.ref v0), some (.ref v1), some (.ref v2), some (.ref v3), some (.ref v4), some (.int v5), none, none, none] [.int r5, .int r2] σ4 Q
  refine EV.icmp_eq 744 2703 rfl (by decide) dL_law_741 (fun c7 => ?_) (fun c7 => ?_)
  · have h := h.1 c7
    exact h
  · have h := h.2 c7
    refine EV.iconst 745 rfl dL_law_744 (v := 0) (by decide) ?_
    exact EV.zret rfl rfl dL_law_745 h
theorem gL_law_746 {Γ : Gm} {d : Nat} {σ : AH} {Q : Oc → AH → Prop} {v0 : Nat} {v1 : Nat} {v2 : Nat} {v3 : Nat} {v4 : Nat} {v5 : Int32} (h : hs σ v1 = some (6, 17) ∧ CI Γ d MX8_nodeCount [.ref v1] σ (fun r2 σ1 => hs σ1 v2 = some (7, 27) ∧ CI Γ d MX9_nodeCount [.ref v2] σ1 (fun r5 σ4 => ((r2 = r5 → EV Γ ML_law d 2703 [some (.ref v0), some (.ref v1), some (.ref v2), some (.ref v3), some (.ref v4), some (.int v5), none, none, none] [] σ4 Q) ∧ (¬ r2 = r5 → Q (.inl (some (.int 0))) σ4))) (fun E σ4 => Q (.inr E) σ4)) (fun E σ1 => Q (.inr E) σ1)) : EV Γ ML_law d 746 [some (.ref v0), some (.ref v1), some (.ref v2), some (.ref v3), some (.ref v4), some (.int v5), none, none, none] [] σ Q := by
  refine EV.aload_n 747 rfl 1 rfl rfl dL_law_746 ?_
  obtain ⟨w3, h⟩ := h
  refine EV.cV rfl rfl lk_L_182 rfl (vs := []) (st := []) rfl rfl (Nat.le_of_ble_eq_true rfl) dL_law_747 w3 h (fun v σ1 h => ?_)
  obtain ⟨r2, rfl, h⟩ := h
  show EV Γ ML_law d 750 [some (.ref v0), some (.ref v1), some (.ref v2), some (.ref v3), some (.ref v4), some (.int v5), none, none, none] [.int r2] σ1 Q
  refine EV.aload_n 751 rfl 2 rfl rfl dL_law_750 ?_
  obtain ⟨w6, h⟩ := h
  refine EV.cV rfl rfl lk_L_185 rfl (vs := []) (st := [.int r2]) rfl rfl (Nat.le_of_ble_eq_true rfl) dL_law_751 w6 h (fun v σ4 h => ?_)
  obtain ⟨r5, rfl, h⟩ := h
  show EV Γ ML_law d 754 [some (.ref v0), some (.ref v1), some (.ref v2), some (.ref v3), some (.ref v4), some (.int v5), none, none, none] [.int r5, .int r2] σ4 Q
  refine EV.icmp_eq 757 2703 rfl (by decide) dL_law_754 (fun c7 => ?_) (fun c7 => ?_)
  · have h := h.1 c7
    exact h
  · have h := h.2 c7
    refine EV.iconst 758 rfl dL_law_757 (v := 0) (by decide) ?_
    exact EV.zret rfl rfl dL_law_758 h
theorem gL_law_759 {Γ : Gm} {d : Nat} {σ : AH} {Q : Oc → AH → Prop} {v0 : Nat} {v1 : Nat} {v2 : Nat} {v3 : Nat} {v4 : Nat} {v5 : Int32} (h : ∃ n2 : Nat, hs σ v0 = some (28, n2) ∧ ∃ j3 : Nat, IX (v5 + 1) n2 j3 ∧ CI Γ d ML_nodesOf [.ref v1, .int (gi σ v0 j3), .ref v3] σ (fun r6 σ5 => ∃ n8 : Nat, hs σ5 v0 = some (28, n8) ∧ ∃ j9 : Nat, IX (v5 + 1) n8 j9 ∧ hs σ5 v2 = some (7, 27) ∧ CI Γ d MX9_nodesOf [.ref v2, .int (gi σ5 v0 j9)] σ5 (fun r12 σ11 => hs σ11 v2 = some (7, 27) ∧ CI Γ d MX9_thrown [.ref v2] σ11 (fun r15 σ14 => ((r15 = r6 → ((r6 ≠ 0 → EV Γ ML_law d 2703 [some (.ref v0), some (.ref v1), some (.ref v2), some (.ref v3), some (.ref v4), some (.int v5), none, none, none] [] σ14 Q) ∧ (r6 = 0 → ∃ n20 : Nat, hs σ14 v3 = some (23, n20) ∧ ∃ j21 : Nat, IX 0 n20 j21 ∧ (((lg_cmp (gj σ14 v3 j21) (Int32.toInt64 r12)) = 0 → EV Γ ML_law d 2703 [some (.ref v0), some (.ref v1), some (.ref v2), some (.ref v3), some (.ref v4), some (.int v5), none, none, none] [] σ14 Q) ∧ (¬ (lg_cmp (gj σ14 v3 j21) (Int32.toInt64 r12)) = 0 → Q (.inl (some (.int 0))) σ14))))) ∧ (¬ r15 = r6 → Q (.inl (some (.int 0))) σ14))) (fun E σ14 => Q (.inr E) σ14)) (fun E σ11 => Q (.inr E) σ11)) (fun _ _ => False)) : EV Γ ML_law d 759 [some (.ref v0), some (.ref v1), some (.ref v2), some (.ref v3), some (.ref v4), some (.int v5), none, none, none] [] σ Q := by
  refine EV.aload_n 760 rfl 1 rfl rfl dL_law_759 ?_
  refine EV.aload_n 761 rfl 0 rfl rfl dL_law_760 ?_
  refine EV.iload 763 rfl rfl dL_law_761 ?_
  refine EV.iconst 764 rfl dL_law_763 (v := 1) (by decide) ?_
  refine EV.iadd 765 rfl dL_law_764 ?_
  obtain ⟨n2, w1, h⟩ := h
  obtain ⟨j3, x4, h⟩ := h
  refine EV.ialdS 766 rfl dL_law_765 w1 x4 ?_
  refine EV.aload_n 767 rfl 3 rfl rfl dL_law_766 ?_
  refine EV.cSW rfl lk_L_186 rfl (vs := [.ref v1, .int (gi σ v0 j3), .ref v3]) (st := []) rfl rfl (Nat.le_of_ble_eq_true rfl) dL_law_767 h (fun v σ5 h => ?_)
  obtain ⟨r6, rfl, h⟩ := h
  show EV Γ ML_law d 770 [some (.ref v0), some (.ref v1), some (.ref v2), some (.ref v3), some (.ref v4), some (.int v5), none, none, none] [.int r6] σ5 Q
  refine EV.istore 772 rfl [some (.ref v0), some (.ref v1), some (.ref v2), some (.ref v3), some (.ref v4), some (.int v5), some (.int r6), none, none] (by decide) rfl dL_law_770 ?_
  refine EV.aload_n 773 rfl 2 rfl rfl dL_law_772 ?_
  refine EV.aload_n 774 rfl 0 rfl rfl dL_law_773 ?_
  refine EV.iload 776 rfl rfl dL_law_774 ?_
  refine EV.iconst 777 rfl dL_law_776 (v := 1) (by decide) ?_
  refine EV.iadd 778 rfl dL_law_777 ?_
  obtain ⟨n8, w7, h⟩ := h
  obtain ⟨j9, x10, h⟩ := h
  refine EV.ialdS 779 rfl dL_law_778 w7 x10 ?_
  obtain ⟨w13, h⟩ := h
  refine EV.cV rfl rfl lk_L_188 rfl (vs := [.int (gi σ5 v0 j9)]) (st := []) rfl rfl (Nat.le_of_ble_eq_true rfl) dL_law_779 w13 h (fun v σ11 h => ?_)
  obtain ⟨r12, rfl, h⟩ := h
  show EV Γ ML_law d 782 [some (.ref v0), some (.ref v1), some (.ref v2), some (.ref v3), some (.ref v4), some (.int v5), some (.int r6), none, none] [.int r12] σ11 Q
  refine EV.istore 784 rfl [some (.ref v0), some (.ref v1), some (.ref v2), some (.ref v3), some (.ref v4), some (.int v5), some (.int r6), some (.int r12), none] (by decide) rfl dL_law_782 ?_
  refine EV.aload_n 785 rfl 2 rfl rfl dL_law_784 ?_
  obtain ⟨w16, h⟩ := h
  refine EV.cV rfl rfl lk_L_147 rfl (vs := []) (st := []) rfl rfl (Nat.le_of_ble_eq_true rfl) dL_law_785 w16 h (fun v σ14 h => ?_)
  obtain ⟨r15, rfl, h⟩ := h
  show EV Γ ML_law d 788 [some (.ref v0), some (.ref v1), some (.ref v2), some (.ref v3), some (.ref v4), some (.int v5), some (.int r6), some (.int r12), none] [.int r15] σ14 Q
  refine EV.iload 790 rfl rfl dL_law_788 ?_
  refine EV.icmp_eq 793 795 rfl (by decide) dL_law_790 (fun c17 => ?_) (fun c17 => ?_)
  · have h := h.1 c17
    refine EV.iload 797 rfl rfl dL_law_795 ?_
    refine EV.if_ne 800 812 rfl (by decide) dL_law_797 (fun c18 => ?_) (fun c18 => ?_)
    · have h := h.1 c18
      refine EV.goto 2703 (by decide) dL_law_812 ?_
      refine EV.mask [true, true, true, true, true, true, false, false, false] (L' := [some (.ref v0), some (.ref v1), some (.ref v2), some (.ref v3), some (.ref v4), some (.int v5), none, none, none]) rfl ?_
      exact h
    · have h := h.2 c18
      refine EV.aload_n 801 rfl 3 rfl rfl dL_law_800 ?_
      refine EV.iconst 802 rfl dL_law_801 (v := 0) (by decide) ?_
      obtain ⟨n20, w19, h⟩ := h
      obtain ⟨j21, x22, h⟩ := h
      refine EV.lald 803 rfl dL_law_802 w19 x22 ?_
      refine EV.iload 805 rfl rfl dL_law_803 ?_
      refine EV.i2l 806 rfl dL_law_805 ?_
      refine EV.lcmp 807 rfl dL_law_806 ?_
      refine EV.if_eq 810 812 rfl (by decide) dL_law_807 (fun c23 => ?_) (fun c23 => ?_)
      · have h := h.1 c23
        refine EV.goto 2703 (by decide) dL_law_812 ?_
        refine EV.mask [true, true, true, true, true, true, false, false, false] (L' := [some (.ref v0), some (.ref v1), some (.ref v2), some (.ref v3), some (.ref v4), some (.int v5), none, none, none]) rfl ?_
        exact h
      · have h := h.2 c23
        refine EV.iconst 811 rfl dL_law_810 (v := 0) (by decide) ?_
        exact EV.zret rfl rfl dL_law_811 h
  · have h := h.2 c17
    refine EV.iconst 794 rfl dL_law_793 (v := 0) (by decide) ?_
    exact EV.zret rfl rfl dL_law_794 h
theorem gL_law_815 {Γ : Gm} {d : Nat} {σ : AH} {Q : Oc → AH → Prop} {v0 : Nat} {v1 : Nat} {v2 : Nat} {v3 : Nat} {v4 : Nat} {v5 : Int32} (h : ∃ n2 : Nat, hs σ v0 = some (28, n2) ∧ ∃ j3 : Nat, IX (v5 + 1) n2 j3 ∧ ∃ j5 : Nat, IX (v5 + 2) n2 j5 ∧ CI Γ d ML_union [.ref v1, .int (gi σ v0 j3), .int (gi σ v0 j5), .ref v3] σ (fun r8 σ7 => ∃ n10 : Nat, hs σ7 v0 = some (28, n10) ∧ ∃ j11 : Nat, IX (v5 + 1) n10 j11 ∧ ∃ j13 : Nat, IX (v5 + 2) n10 j13 ∧ hs σ7 v2 = some (7, 27) ∧ CI Γ d MX9_union [.ref v2, .int (gi σ7 v0 j11), .int (gi σ7 v0 j13)] σ7 (fun r16 σ15 => hs σ15 v2 = some (7, 27) ∧ CI Γ d MX9_thrown [.ref v2] σ15 (fun r19 σ18 => ((r19 = r8 → ((r8 ≠ 0 → EV Γ ML_law d 2703 [some (.ref v0), some (.ref v1), some (.ref v2), some (.ref v3), some (.ref v4), some (.int v5), none, none, none] [] σ18 Q) ∧ (r8 = 0 → ∃ n24 : Nat, hs σ18 v3 = some (23, n24) ∧ ∃ j25 : Nat, IX 0 n24 j25 ∧ (((lg_cmp (gj σ18 v3 j25) (Int32.toInt64 r16)) = 0 → EV Γ ML_law d 2703 [some (.ref v0), some (.ref v1), some (.ref v2), some (.ref v3), some (.ref v4), some (.int v5), none, none, none] [] σ18 Q) ∧ (¬ (lg_cmp (gj σ18 v3 j25) (Int32.toInt64 r16)) = 0 → Q (.inl (some (.int 0))) σ18))))) ∧ (¬ r19 = r8 → Q (.inl (some (.int 0))) σ18))) (fun E σ18 => Q (.inr E) σ18)) (fun E σ15 => Q (.inr E) σ15)) (fun _ _ => False)) : EV Γ ML_law d 815 [some (.ref v0), some (.ref v1), some (.ref v2), some (.ref v3), some (.ref v4), some (.int v5), none, none, none] [] σ Q := by
  refine EV.aload_n 816 rfl 1 rfl rfl dL_law_815 ?_
  refine EV.aload_n 817 rfl 0 rfl rfl dL_law_816 ?_
  refine EV.iload 819 rfl rfl dL_law_817 ?_
  refine EV.iconst 820 rfl dL_law_819 (v := 1) (by decide) ?_
  refine EV.iadd 821 rfl dL_law_820 ?_
  obtain ⟨n2, w1, h⟩ := h
  obtain ⟨j3, x4, h⟩ := h
  refine EV.ialdS 822 rfl dL_law_821 w1 x4 ?_
  refine EV.aload_n 823 rfl 0 rfl rfl dL_law_822 ?_
  refine EV.iload 825 rfl rfl dL_law_823 ?_
  refine EV.iconst 826 rfl dL_law_825 (v := 2) (by decide) ?_
  refine EV.iadd 827 rfl dL_law_826 ?_
  obtain ⟨j5, x6, h⟩ := h
  refine EV.ialdS 828 rfl dL_law_827 w1 x6 ?_
  refine EV.aload_n 829 rfl 3 rfl rfl dL_law_828 ?_
  refine EV.cSW rfl lk_L_189 rfl (vs := [.ref v1, .int (gi σ v0 j3), .int (gi σ v0 j5), .ref v3]) (st := []) rfl rfl (Nat.le_of_ble_eq_true rfl) dL_law_829 h (fun v σ7 h => ?_)
  obtain ⟨r8, rfl, h⟩ := h
  show EV Γ ML_law d 832 [some (.ref v0), some (.ref v1), some (.ref v2), some (.ref v3), some (.ref v4), some (.int v5), none, none, none] [.int r8] σ7 Q
  refine EV.istore 834 rfl [some (.ref v0), some (.ref v1), some (.ref v2), some (.ref v3), some (.ref v4), some (.int v5), some (.int r8), none, none] (by decide) rfl dL_law_832 ?_
  refine EV.aload_n 835 rfl 2 rfl rfl dL_law_834 ?_
  refine EV.aload_n 836 rfl 0 rfl rfl dL_law_835 ?_
  refine EV.iload 838 rfl rfl dL_law_836 ?_
  refine EV.iconst 839 rfl dL_law_838 (v := 1) (by decide) ?_
  refine EV.iadd 840 rfl dL_law_839 ?_
  obtain ⟨n10, w9, h⟩ := h
  obtain ⟨j11, x12, h⟩ := h
  refine EV.ialdS 841 rfl dL_law_840 w9 x12 ?_
  refine EV.aload_n 842 rfl 0 rfl rfl dL_law_841 ?_
  refine EV.iload 844 rfl rfl dL_law_842 ?_
  refine EV.iconst 845 rfl dL_law_844 (v := 2) (by decide) ?_
  refine EV.iadd 846 rfl dL_law_845 ?_
  obtain ⟨j13, x14, h⟩ := h
  refine EV.ialdS 847 rfl dL_law_846 w9 x14 ?_
  obtain ⟨w17, h⟩ := h
  refine EV.cV rfl rfl lk_L_191 rfl (vs := [.int (gi σ7 v0 j11), .int (gi σ7 v0 j13)]) (st := []) rfl rfl (Nat.le_of_ble_eq_true rfl) dL_law_847 w17 h (fun v σ15 h => ?_)
  obtain ⟨r16, rfl, h⟩ := h
  show EV Γ ML_law d 850 [some (.ref v0), some (.ref v1), some (.ref v2), some (.ref v3), some (.ref v4), some (.int v5), some (.int r8), none, none] [.int r16] σ15 Q
  refine EV.istore 852 rfl [some (.ref v0), some (.ref v1), some (.ref v2), some (.ref v3), some (.ref v4), some (.int v5), some (.int r8), some (.int r16), none] (by decide) rfl dL_law_850 ?_
  refine EV.aload_n 853 rfl 2 rfl rfl dL_law_852 ?_
  obtain ⟨w20, h⟩ := h
  refine EV.cV rfl rfl lk_L_147 rfl (vs := []) (st := []) rfl rfl (Nat.le_of_ble_eq_true rfl) dL_law_853 w20 h (fun v σ18 h => ?_)
  obtain ⟨r19, rfl, h⟩ := h
  show EV Γ ML_law d 856 [some (.ref v0), some (.ref v1), some (.ref v2), some (.ref v3), some (.ref v4), some (.int v5), some (.int r8), some (.int r16), none] [.int r19] σ18 Q
  refine EV.iload 858 rfl rfl dL_law_856 ?_
  refine EV.icmp_eq 861 863 rfl (by decide) dL_law_858 (fun c21 => ?_) (fun c21 => ?_)
  · have h := h.1 c21
    refine EV.iload 865 rfl rfl dL_law_863 ?_
    refine EV.if_ne 868 880 rfl (by decide) dL_law_865 (fun c22 => ?_) (fun c22 => ?_)
    · have h := h.1 c22
      refine EV.goto 2703 (by decide) dL_law_880 ?_
      refine EV.mask [true, true, true, true, true, true, false, false, false] (L' := [some (.ref v0), some (.ref v1), some (.ref v2), some (.ref v3), some (.ref v4), some (.int v5), none, none, none]) rfl ?_
      exact h
    · have h := h.2 c22
      refine EV.aload_n 869 rfl 3 rfl rfl dL_law_868 ?_
      refine EV.iconst 870 rfl dL_law_869 (v := 0) (by decide) ?_
      obtain ⟨n24, w23, h⟩ := h
      obtain ⟨j25, x26, h⟩ := h
      refine EV.lald 871 rfl dL_law_870 w23 x26 ?_
      refine EV.iload 873 rfl rfl dL_law_871 ?_
      refine EV.i2l 874 rfl dL_law_873 ?_
      refine EV.lcmp 875 rfl dL_law_874 ?_
      refine EV.if_eq 878 880 rfl (by decide) dL_law_875 (fun c27 => ?_) (fun c27 => ?_)
      · have h := h.1 c27
        refine EV.goto 2703 (by decide) dL_law_880 ?_
        refine EV.mask [true, true, true, true, true, true, false, false, false] (L' := [some (.ref v0), some (.ref v1), some (.ref v2), some (.ref v3), some (.ref v4), some (.int v5), none, none, none]) rfl ?_
        exact h
      · have h := h.2 c27
        refine EV.iconst 879 rfl dL_law_878 (v := 0) (by decide) ?_
        exact EV.zret rfl rfl dL_law_879 h
  · have h := h.2 c21
    refine EV.iconst 862 rfl dL_law_861 (v := 0) (by decide) ?_
    exact EV.zret rfl rfl dL_law_862 h
theorem gL_law_883 {Γ : Gm} {d : Nat} {σ : AH} {Q : Oc → AH → Prop} {v0 : Nat} {v1 : Nat} {v2 : Nat} {v3 : Nat} {v4 : Nat} {v5 : Int32} (h : ∃ n2 : Nat, hs σ v0 = some (28, n2) ∧ ∃ j3 : Nat, IX (v5 + 1) n2 j3 ∧ ∃ j5 : Nat, IX (v5 + 2) n2 j5 ∧ CI Γ d ML_intersection [.ref v1, .int (gi σ v0 j3), .int (gi σ v0 j5), .ref v3] σ (fun r8 σ7 => ∃ n10 : Nat, hs σ7 v0 = some (28, n10) ∧ ∃ j11 : Nat, IX (v5 + 1) n10 j11 ∧ ∃ j13 : Nat, IX (v5 + 2) n10 j13 ∧ hs σ7 v2 = some (7, 27) ∧ CI Γ d MX9_intersection [.ref v2, .int (gi σ7 v0 j11), .int (gi σ7 v0 j13)] σ7 (fun r16 σ15 => hs σ15 v2 = some (7, 27) ∧ CI Γ d MX9_thrown [.ref v2] σ15 (fun r19 σ18 => ((r19 = r8 → ((r8 ≠ 0 → EV Γ ML_law d 2703 [some (.ref v0), some (.ref v1), some (.ref v2), some (.ref v3), some (.ref v4), some (.int v5), none, none, none] [] σ18 Q) ∧ (r8 = 0 → ∃ n24 : Nat, hs σ18 v3 = some (23, n24) ∧ ∃ j25 : Nat, IX 0 n24 j25 ∧ (((lg_cmp (gj σ18 v3 j25) (Int32.toInt64 r16)) = 0 → EV Γ ML_law d 2703 [some (.ref v0), some (.ref v1), some (.ref v2), some (.ref v3), some (.ref v4), some (.int v5), none, none, none] [] σ18 Q) ∧ (¬ (lg_cmp (gj σ18 v3 j25) (Int32.toInt64 r16)) = 0 → Q (.inl (some (.int 0))) σ18))))) ∧ (¬ r19 = r8 → Q (.inl (some (.int 0))) σ18))) (fun E σ18 => Q (.inr E) σ18)) (fun E σ15 => Q (.inr E) σ15)) (fun _ _ => False)) : EV Γ ML_law d 883 [some (.ref v0), some (.ref v1), some (.ref v2), some (.ref v3), some (.ref v4), some (.int v5), none, none, none] [] σ Q := by
  refine EV.aload_n 884 rfl 1 rfl rfl dL_law_883 ?_
  refine EV.aload_n 885 rfl 0 rfl rfl dL_law_884 ?_
  refine EV.iload 887 rfl rfl dL_law_885 ?_
  refine EV.iconst 888 rfl dL_law_887 (v := 1) (by decide) ?_
  refine EV.iadd 889 rfl dL_law_888 ?_
  obtain ⟨n2, w1, h⟩ := h
  obtain ⟨j3, x4, h⟩ := h
  refine EV.ialdS 890 rfl dL_law_889 w1 x4 ?_
  refine EV.aload_n 891 rfl 0 rfl rfl dL_law_890 ?_
  refine EV.iload 893 rfl rfl dL_law_891 ?_
  refine EV.iconst 894 rfl dL_law_893 (v := 2) (by decide) ?_
  refine EV.iadd 895 rfl dL_law_894 ?_
  obtain ⟨j5, x6, h⟩ := h
  refine EV.ialdS 896 rfl dL_law_895 w1 x6 ?_
  refine EV.aload_n 897 rfl 3 rfl rfl dL_law_896 ?_
  refine EV.cSW rfl lk_L_192 rfl (vs := [.ref v1, .int (gi σ v0 j3), .int (gi σ v0 j5), .ref v3]) (st := []) rfl rfl (Nat.le_of_ble_eq_true rfl) dL_law_897 h (fun v σ7 h => ?_)
  obtain ⟨r8, rfl, h⟩ := h
  show EV Γ ML_law d 900 [some (.ref v0), some (.ref v1), some (.ref v2), some (.ref v3), some (.ref v4), some (.int v5), none, none, none] [.int r8] σ7 Q
  refine EV.istore 902 rfl [some (.ref v0), some (.ref v1), some (.ref v2), some (.ref v3), some (.ref v4), some (.int v5), some (.int r8), none, none] (by decide) rfl dL_law_900 ?_
  refine EV.aload_n 903 rfl 2 rfl rfl dL_law_902 ?_
  refine EV.aload_n 904 rfl 0 rfl rfl dL_law_903 ?_
  refine EV.iload 906 rfl rfl dL_law_904 ?_
  refine EV.iconst 907 rfl dL_law_906 (v := 1) (by decide) ?_
  refine EV.iadd 908 rfl dL_law_907 ?_
  obtain ⟨n10, w9, h⟩ := h
  obtain ⟨j11, x12, h⟩ := h
  refine EV.ialdS 909 rfl dL_law_908 w9 x12 ?_
  refine EV.aload_n 910 rfl 0 rfl rfl dL_law_909 ?_
  refine EV.iload 912 rfl rfl dL_law_910 ?_
  refine EV.iconst 913 rfl dL_law_912 (v := 2) (by decide) ?_
  refine EV.iadd 914 rfl dL_law_913 ?_
  obtain ⟨j13, x14, h⟩ := h
  refine EV.ialdS 915 rfl dL_law_914 w9 x14 ?_
  obtain ⟨w17, h⟩ := h
  refine EV.cV rfl rfl lk_L_194 rfl (vs := [.int (gi σ7 v0 j11), .int (gi σ7 v0 j13)]) (st := []) rfl rfl (Nat.le_of_ble_eq_true rfl) dL_law_915 w17 h (fun v σ15 h => ?_)
  obtain ⟨r16, rfl, h⟩ := h
  show EV Γ ML_law d 918 [some (.ref v0), some (.ref v1), some (.ref v2), some (.ref v3), some (.ref v4), some (.int v5), some (.int r8), none, none] [.int r16] σ15 Q
  refine EV.istore 920 rfl [some (.ref v0), some (.ref v1), some (.ref v2), some (.ref v3), some (.ref v4), some (.int v5), some (.int r8), some (.int r16), none] (by decide) rfl dL_law_918 ?_
  refine EV.aload_n 921 rfl 2 rfl rfl dL_law_920 ?_
  obtain ⟨w20, h⟩ := h
  refine EV.cV rfl rfl lk_L_147 rfl (vs := []) (st := []) rfl rfl (Nat.le_of_ble_eq_true rfl) dL_law_921 w20 h (fun v σ18 h => ?_)
  obtain ⟨r19, rfl, h⟩ := h
  show EV Γ ML_law d 924 [some (.ref v0), some (.ref v1), some (.ref v2), some (.ref v3), some (.ref v4), some (.int v5), some (.int r8), some (.int r16), none] [.int r19] σ18 Q
  refine EV.iload 926 rfl rfl dL_law_924 ?_
  refine EV.icmp_eq 929 931 rfl (by decide) dL_law_926 (fun c21 => ?_) (fun c21 => ?_)
  · have h := h.1 c21
    refine EV.iload 933 rfl rfl dL_law_931 ?_
    refine EV.if_ne 936 948 rfl (by decide) dL_law_933 (fun c22 => ?_) (fun c22 => ?_)
    · have h := h.1 c22
      refine EV.goto 2703 (by decide) dL_law_948 ?_
      refine EV.mask [true, true, true, true, true, true, false, false, false] (L' := [some (.ref v0), some (.ref v1), some (.ref v2), some (.ref v3), some (.ref v4), some (.int v5), none, none, none]) rfl ?_
      exact h
    · have h := h.2 c22
      refine EV.aload_n 937 rfl 3 rfl rfl dL_law_936 ?_
      refine EV.iconst 938 rfl dL_law_937 (v := 0) (by decide) ?_
      obtain ⟨n24, w23, h⟩ := h
      obtain ⟨j25, x26, h⟩ := h
      refine EV.lald 939 rfl dL_law_938 w23 x26 ?_
      refine EV.iload 941 rfl rfl dL_law_939 ?_
      refine EV.i2l 942 rfl dL_law_941 ?_
      refine EV.lcmp 943 rfl dL_law_942 ?_
      refine EV.if_eq 946 948 rfl (by decide) dL_law_943 (fun c27 => ?_) (fun c27 => ?_)
      · have h := h.1 c27
        refine EV.goto 2703 (by decide) dL_law_948 ?_
        refine EV.mask [true, true, true, true, true, true, false, false, false] (L' := [some (.ref v0), some (.ref v1), some (.ref v2), some (.ref v3), some (.ref v4), some (.int v5), none, none, none]) rfl ?_
        exact h
      · have h := h.2 c27
        refine EV.iconst 947 rfl dL_law_946 (v := 0) (by decide) ?_
        exact EV.zret rfl rfl dL_law_947 h
  · have h := h.2 c21
    refine EV.iconst 930 rfl dL_law_929 (v := 0) (by decide) ?_
    exact EV.zret rfl rfl dL_law_930 h
theorem gL_law_951 {Γ : Gm} {d : Nat} {σ : AH} {Q : Oc → AH → Prop} {v0 : Nat} {v1 : Nat} {v2 : Nat} {v3 : Nat} {v4 : Nat} {v5 : Int32} (h : ∃ n2 : Nat, hs σ v0 = some (28, n2) ∧ ∃ j3 : Nat, IX (v5 + 1) n2 j3 ∧ ∃ j5 : Nat, IX (v5 + 2) n2 j5 ∧ CI Γ d ML_difference [.ref v1, .int (gi σ v0 j3), .int (gi σ v0 j5), .ref v3] σ (fun r8 σ7 => ∃ n10 : Nat, hs σ7 v0 = some (28, n10) ∧ ∃ j11 : Nat, IX (v5 + 1) n10 j11 ∧ ∃ j13 : Nat, IX (v5 + 2) n10 j13 ∧ hs σ7 v2 = some (7, 27) ∧ CI Γ d MX9_difference [.ref v2, .int (gi σ7 v0 j11), .int (gi σ7 v0 j13)] σ7 (fun r16 σ15 => hs σ15 v2 = some (7, 27) ∧ CI Γ d MX9_thrown [.ref v2] σ15 (fun r19 σ18 => ((r19 = r8 → ((r8 ≠ 0 → EV Γ ML_law d 2703 [some (.ref v0), some (.ref v1), some (.ref v2), some (.ref v3), some (.ref v4), some (.int v5), none, none, none] [] σ18 Q) ∧ (r8 = 0 → ∃ n24 : Nat, hs σ18 v3 = some (23, n24) ∧ ∃ j25 : Nat, IX 0 n24 j25 ∧ (((lg_cmp (gj σ18 v3 j25) (Int32.toInt64 r16)) = 0 → EV Γ ML_law d 2703 [some (.ref v0), some (.ref v1), some (.ref v2), some (.ref v3), some (.ref v4), some (.int v5), none, none, none] [] σ18 Q) ∧ (¬ (lg_cmp (gj σ18 v3 j25) (Int32.toInt64 r16)) = 0 → Q (.inl (some (.int 0))) σ18))))) ∧ (¬ r19 = r8 → Q (.inl (some (.int 0))) σ18))) (fun E σ18 => Q (.inr E) σ18)) (fun E σ15 => Q (.inr E) σ15)) (fun _ _ => False)) : EV Γ ML_law d 951 [some (.ref v0), some (.ref v1), some (.ref v2), some (.ref v3), some (.ref v4), some (.int v5), none, none, none] [] σ Q := by
  refine EV.aload_n 952 rfl 1 rfl rfl dL_law_951 ?_
  refine EV.aload_n 953 rfl 0 rfl rfl dL_law_952 ?_
  refine EV.iload 955 rfl rfl dL_law_953 ?_
  refine EV.iconst 956 rfl dL_law_955 (v := 1) (by decide) ?_
  refine EV.iadd 957 rfl dL_law_956 ?_
  obtain ⟨n2, w1, h⟩ := h
  obtain ⟨j3, x4, h⟩ := h
  refine EV.ialdS 958 rfl dL_law_957 w1 x4 ?_
  refine EV.aload_n 959 rfl 0 rfl rfl dL_law_958 ?_
  refine EV.iload 961 rfl rfl dL_law_959 ?_
  refine EV.iconst 962 rfl dL_law_961 (v := 2) (by decide) ?_
  refine EV.iadd 963 rfl dL_law_962 ?_
  obtain ⟨j5, x6, h⟩ := h
  refine EV.ialdS 964 rfl dL_law_963 w1 x6 ?_
  refine EV.aload_n 965 rfl 3 rfl rfl dL_law_964 ?_
  refine EV.cSW rfl lk_L_195 rfl (vs := [.ref v1, .int (gi σ v0 j3), .int (gi σ v0 j5), .ref v3]) (st := []) rfl rfl (Nat.le_of_ble_eq_true rfl) dL_law_965 h (fun v σ7 h => ?_)
  obtain ⟨r8, rfl, h⟩ := h
  show EV Γ ML_law d 968 [some (.ref v0), some (.ref v1), some (.ref v2), some (.ref v3), some (.ref v4), some (.int v5), none, none, none] [.int r8] σ7 Q
  refine EV.istore 970 rfl [some (.ref v0), some (.ref v1), some (.ref v2), some (.ref v3), some (.ref v4), some (.int v5), some (.int r8), none, none] (by decide) rfl dL_law_968 ?_
  refine EV.aload_n 971 rfl 2 rfl rfl dL_law_970 ?_
  refine EV.aload_n 972 rfl 0 rfl rfl dL_law_971 ?_
  refine EV.iload 974 rfl rfl dL_law_972 ?_
  refine EV.iconst 975 rfl dL_law_974 (v := 1) (by decide) ?_
  refine EV.iadd 976 rfl dL_law_975 ?_
  obtain ⟨n10, w9, h⟩ := h
  obtain ⟨j11, x12, h⟩ := h
  refine EV.ialdS 977 rfl dL_law_976 w9 x12 ?_
  refine EV.aload_n 978 rfl 0 rfl rfl dL_law_977 ?_
  refine EV.iload 980 rfl rfl dL_law_978 ?_
  refine EV.iconst 981 rfl dL_law_980 (v := 2) (by decide) ?_
  refine EV.iadd 982 rfl dL_law_981 ?_
  obtain ⟨j13, x14, h⟩ := h
  refine EV.ialdS 983 rfl dL_law_982 w9 x14 ?_
  obtain ⟨w17, h⟩ := h
  refine EV.cV rfl rfl lk_L_197 rfl (vs := [.int (gi σ7 v0 j11), .int (gi σ7 v0 j13)]) (st := []) rfl rfl (Nat.le_of_ble_eq_true rfl) dL_law_983 w17 h (fun v σ15 h => ?_)
  obtain ⟨r16, rfl, h⟩ := h
  show EV Γ ML_law d 986 [some (.ref v0), some (.ref v1), some (.ref v2), some (.ref v3), some (.ref v4), some (.int v5), some (.int r8), none, none] [.int r16] σ15 Q
  refine EV.istore 988 rfl [some (.ref v0), some (.ref v1), some (.ref v2), some (.ref v3), some (.ref v4), some (.int v5), some (.int r8), some (.int r16), none] (by decide) rfl dL_law_986 ?_
  refine EV.aload_n 989 rfl 2 rfl rfl dL_law_988 ?_
  obtain ⟨w20, h⟩ := h
  refine EV.cV rfl rfl lk_L_147 rfl (vs := []) (st := []) rfl rfl (Nat.le_of_ble_eq_true rfl) dL_law_989 w20 h (fun v σ18 h => ?_)
  obtain ⟨r19, rfl, h⟩ := h
  show EV Γ ML_law d 992 [some (.ref v0), some (.ref v1), some (.ref v2), some (.ref v3), some (.ref v4), some (.int v5), some (.int r8), some (.int r16), none] [.int r19] σ18 Q
  refine EV.iload 994 rfl rfl dL_law_992 ?_
  refine EV.icmp_eq 997 999 rfl (by decide) dL_law_994 (fun c21 => ?_) (fun c21 => ?_)
  · have h := h.1 c21
    refine EV.iload 1001 rfl rfl dL_law_999 ?_
    refine EV.if_ne 1004 1016 rfl (by decide) dL_law_1001 (fun c22 => ?_) (fun c22 => ?_)
    · have h := h.1 c22
      refine EV.goto 2703 (by decide) dL_law_1016 ?_
      refine EV.mask [true, true, true, true, true, true, false, false, false] (L' := [some (.ref v0), some (.ref v1), some (.ref v2), some (.ref v3), some (.ref v4), some (.int v5), none, none, none]) rfl ?_
      exact h
    · have h := h.2 c22
      refine EV.aload_n 1005 rfl 3 rfl rfl dL_law_1004 ?_
      refine EV.iconst 1006 rfl dL_law_1005 (v := 0) (by decide) ?_
      obtain ⟨n24, w23, h⟩ := h
      obtain ⟨j25, x26, h⟩ := h
      refine EV.lald 1007 rfl dL_law_1006 w23 x26 ?_
      refine EV.iload 1009 rfl rfl dL_law_1007 ?_
      refine EV.i2l 1010 rfl dL_law_1009 ?_
      refine EV.lcmp 1011 rfl dL_law_1010 ?_
      refine EV.if_eq 1014 1016 rfl (by decide) dL_law_1011 (fun c27 => ?_) (fun c27 => ?_)
      · have h := h.1 c27
        refine EV.goto 2703 (by decide) dL_law_1016 ?_
        refine EV.mask [true, true, true, true, true, true, false, false, false] (L' := [some (.ref v0), some (.ref v1), some (.ref v2), some (.ref v3), some (.ref v4), some (.int v5), none, none, none]) rfl ?_
        exact h
      · have h := h.2 c27
        refine EV.iconst 1015 rfl dL_law_1014 (v := 0) (by decide) ?_
        exact EV.zret rfl rfl dL_law_1015 h
  · have h := h.2 c21
    refine EV.iconst 998 rfl dL_law_997 (v := 0) (by decide) ?_
    exact EV.zret rfl rfl dL_law_998 h
theorem gL_law_1019 {Γ : Gm} {d : Nat} {σ : AH} {Q : Oc → AH → Prop} {v0 : Nat} {v1 : Nat} {v2 : Nat} {v3 : Nat} {v4 : Nat} {v5 : Int32} (h : ∃ n2 : Nat, hs σ v0 = some (28, n2) ∧ ∃ j3 : Nat, IX (v5 + 1) n2 j3 ∧ ∃ j5 : Nat, IX (v5 + 2) n2 j5 ∧ CI Γ d ML_join [.ref v1, .int (gi σ v0 j3), .int (gi σ v0 j5), .ref v3] σ (fun r8 σ7 => ∃ n10 : Nat, hs σ7 v0 = some (28, n10) ∧ ∃ j11 : Nat, IX (v5 + 1) n10 j11 ∧ ∃ j13 : Nat, IX (v5 + 2) n10 j13 ∧ hs σ7 v2 = some (7, 27) ∧ CI Γ d MX9_join [.ref v2, .int (gi σ7 v0 j11), .int (gi σ7 v0 j13)] σ7 (fun r16 σ15 => hs σ15 v2 = some (7, 27) ∧ CI Γ d MX9_thrown [.ref v2] σ15 (fun r19 σ18 => ((r19 = r8 → ((r8 ≠ 0 → EV Γ ML_law d 2703 [some (.ref v0), some (.ref v1), some (.ref v2), some (.ref v3), some (.ref v4), some (.int v5), none, none, none] [] σ18 Q) ∧ (r8 = 0 → ∃ n24 : Nat, hs σ18 v3 = some (23, n24) ∧ ∃ j25 : Nat, IX 0 n24 j25 ∧ (((lg_cmp (gj σ18 v3 j25) (Int32.toInt64 r16)) = 0 → EV Γ ML_law d 2703 [some (.ref v0), some (.ref v1), some (.ref v2), some (.ref v3), some (.ref v4), some (.int v5), none, none, none] [] σ18 Q) ∧ (¬ (lg_cmp (gj σ18 v3 j25) (Int32.toInt64 r16)) = 0 → Q (.inl (some (.int 0))) σ18))))) ∧ (¬ r19 = r8 → Q (.inl (some (.int 0))) σ18))) (fun E σ18 => Q (.inr E) σ18)) (fun E σ15 => Q (.inr E) σ15)) (fun _ _ => False)) : EV Γ ML_law d 1019 [some (.ref v0), some (.ref v1), some (.ref v2), some (.ref v3), some (.ref v4), some (.int v5), none, none, none] [] σ Q := by
  refine EV.aload_n 1020 rfl 1 rfl rfl dL_law_1019 ?_
  refine EV.aload_n 1021 rfl 0 rfl rfl dL_law_1020 ?_
  refine EV.iload 1023 rfl rfl dL_law_1021 ?_
  refine EV.iconst 1024 rfl dL_law_1023 (v := 1) (by decide) ?_
  refine EV.iadd 1025 rfl dL_law_1024 ?_
  obtain ⟨n2, w1, h⟩ := h
  obtain ⟨j3, x4, h⟩ := h
  refine EV.ialdS 1026 rfl dL_law_1025 w1 x4 ?_
  refine EV.aload_n 1027 rfl 0 rfl rfl dL_law_1026 ?_
  refine EV.iload 1029 rfl rfl dL_law_1027 ?_
  refine EV.iconst 1030 rfl dL_law_1029 (v := 2) (by decide) ?_
  refine EV.iadd 1031 rfl dL_law_1030 ?_
  obtain ⟨j5, x6, h⟩ := h
  refine EV.ialdS 1032 rfl dL_law_1031 w1 x6 ?_
  refine EV.aload_n 1033 rfl 3 rfl rfl dL_law_1032 ?_
  refine EV.cSW rfl lk_L_198 rfl (vs := [.ref v1, .int (gi σ v0 j3), .int (gi σ v0 j5), .ref v3]) (st := []) rfl rfl (Nat.le_of_ble_eq_true rfl) dL_law_1033 h (fun v σ7 h => ?_)
  obtain ⟨r8, rfl, h⟩ := h
  show EV Γ ML_law d 1036 [some (.ref v0), some (.ref v1), some (.ref v2), some (.ref v3), some (.ref v4), some (.int v5), none, none, none] [.int r8] σ7 Q
  refine EV.istore 1038 rfl [some (.ref v0), some (.ref v1), some (.ref v2), some (.ref v3), some (.ref v4), some (.int v5), some (.int r8), none, none] (by decide) rfl dL_law_1036 ?_
  refine EV.aload_n 1039 rfl 2 rfl rfl dL_law_1038 ?_
  refine EV.aload_n 1040 rfl 0 rfl rfl dL_law_1039 ?_
  refine EV.iload 1042 rfl rfl dL_law_1040 ?_
  refine EV.iconst 1043 rfl dL_law_1042 (v := 1) (by decide) ?_
  refine EV.iadd 1044 rfl dL_law_1043 ?_
  obtain ⟨n10, w9, h⟩ := h
  obtain ⟨j11, x12, h⟩ := h
  refine EV.ialdS 1045 rfl dL_law_1044 w9 x12 ?_
  refine EV.aload_n 1046 rfl 0 rfl rfl dL_law_1045 ?_
  refine EV.iload 1048 rfl rfl dL_law_1046 ?_
  refine EV.iconst 1049 rfl dL_law_1048 (v := 2) (by decide) ?_
  refine EV.iadd 1050 rfl dL_law_1049 ?_
  obtain ⟨j13, x14, h⟩ := h
  refine EV.ialdS 1051 rfl dL_law_1050 w9 x14 ?_
  obtain ⟨w17, h⟩ := h
  refine EV.cV rfl rfl lk_L_200 rfl (vs := [.int (gi σ7 v0 j11), .int (gi σ7 v0 j13)]) (st := []) rfl rfl (Nat.le_of_ble_eq_true rfl) dL_law_1051 w17 h (fun v σ15 h => ?_)
  obtain ⟨r16, rfl, h⟩ := h
  show EV Γ ML_law d 1054 [some (.ref v0), some (.ref v1), some (.ref v2), some (.ref v3), some (.ref v4), some (.int v5), some (.int r8), none, none] [.int r16] σ15 Q
  refine EV.istore 1056 rfl [some (.ref v0), some (.ref v1), some (.ref v2), some (.ref v3), some (.ref v4), some (.int v5), some (.int r8), some (.int r16), none] (by decide) rfl dL_law_1054 ?_
  refine EV.aload_n 1057 rfl 2 rfl rfl dL_law_1056 ?_
  obtain ⟨w20, h⟩ := h
  refine EV.cV rfl rfl lk_L_147 rfl (vs := []) (st := []) rfl rfl (Nat.le_of_ble_eq_true rfl) dL_law_1057 w20 h (fun v σ18 h => ?_)
  obtain ⟨r19, rfl, h⟩ := h
  show EV Γ ML_law d 1060 [some (.ref v0), some (.ref v1), some (.ref v2), some (.ref v3), some (.ref v4), some (.int v5), some (.int r8), some (.int r16), none] [.int r19] σ18 Q
  refine EV.iload 1062 rfl rfl dL_law_1060 ?_
  refine EV.icmp_eq 1065 1067 rfl (by decide) dL_law_1062 (fun c21 => ?_) (fun c21 => ?_)
  · have h := h.1 c21
    refine EV.iload 1069 rfl rfl dL_law_1067 ?_
    refine EV.if_ne 1072 1084 rfl (by decide) dL_law_1069 (fun c22 => ?_) (fun c22 => ?_)
    · have h := h.1 c22
      refine EV.goto 2703 (by decide) dL_law_1084 ?_
      refine EV.mask [true, true, true, true, true, true, false, false, false] (L' := [some (.ref v0), some (.ref v1), some (.ref v2), some (.ref v3), some (.ref v4), some (.int v5), none, none, none]) rfl ?_
      exact h
    · have h := h.2 c22
      refine EV.aload_n 1073 rfl 3 rfl rfl dL_law_1072 ?_
      refine EV.iconst 1074 rfl dL_law_1073 (v := 0) (by decide) ?_
      obtain ⟨n24, w23, h⟩ := h
      obtain ⟨j25, x26, h⟩ := h
      refine EV.lald 1075 rfl dL_law_1074 w23 x26 ?_
      refine EV.iload 1077 rfl rfl dL_law_1075 ?_
      refine EV.i2l 1078 rfl dL_law_1077 ?_
      refine EV.lcmp 1079 rfl dL_law_1078 ?_
      refine EV.if_eq 1082 1084 rfl (by decide) dL_law_1079 (fun c27 => ?_) (fun c27 => ?_)
      · have h := h.1 c27
        refine EV.goto 2703 (by decide) dL_law_1084 ?_
        refine EV.mask [true, true, true, true, true, true, false, false, false] (L' := [some (.ref v0), some (.ref v1), some (.ref v2), some (.ref v3), some (.ref v4), some (.int v5), none, none, none]) rfl ?_
        exact h
      · have h := h.2 c27
        refine EV.iconst 1083 rfl dL_law_1082 (v := 0) (by decide) ?_
        exact EV.zret rfl rfl dL_law_1083 h
  · have h := h.2 c21
    refine EV.iconst 1066 rfl dL_law_1065 (v := 0) (by decide) ?_
    exact EV.zret rfl rfl dL_law_1066 h
theorem gL_law_1087 {Γ : Gm} {d : Nat} {σ : AH} {Q : Oc → AH → Prop} {v0 : Nat} {v1 : Nat} {v2 : Nat} {v3 : Nat} {v4 : Nat} {v5 : Int32} (h : ∃ n2 : Nat, hs σ v0 = some (28, n2) ∧ ∃ j3 : Nat, IX (v5 + 1) n2 j3 ∧ ∃ j5 : Nat, IX (v5 + 2) n2 j5 ∧ CI Γ d ML_meet [.ref v1, .int (gi σ v0 j3), .int (gi σ v0 j5), .ref v3] σ (fun r8 σ7 => ∃ n10 : Nat, hs σ7 v0 = some (28, n10) ∧ ∃ j11 : Nat, IX (v5 + 1) n10 j11 ∧ ∃ j13 : Nat, IX (v5 + 2) n10 j13 ∧ hs σ7 v2 = some (7, 27) ∧ CI Γ d MX9_meet [.ref v2, .int (gi σ7 v0 j11), .int (gi σ7 v0 j13)] σ7 (fun r16 σ15 => hs σ15 v2 = some (7, 27) ∧ CI Γ d MX9_thrown [.ref v2] σ15 (fun r19 σ18 => ((r19 = r8 → ((r8 ≠ 0 → EV Γ ML_law d 2703 [some (.ref v0), some (.ref v1), some (.ref v2), some (.ref v3), some (.ref v4), some (.int v5), none, none, none] [] σ18 Q) ∧ (r8 = 0 → ∃ n24 : Nat, hs σ18 v3 = some (23, n24) ∧ ∃ j25 : Nat, IX 0 n24 j25 ∧ (((lg_cmp (gj σ18 v3 j25) (Int32.toInt64 r16)) = 0 → EV Γ ML_law d 2703 [some (.ref v0), some (.ref v1), some (.ref v2), some (.ref v3), some (.ref v4), some (.int v5), none, none, none] [] σ18 Q) ∧ (¬ (lg_cmp (gj σ18 v3 j25) (Int32.toInt64 r16)) = 0 → Q (.inl (some (.int 0))) σ18))))) ∧ (¬ r19 = r8 → Q (.inl (some (.int 0))) σ18))) (fun E σ18 => Q (.inr E) σ18)) (fun E σ15 => Q (.inr E) σ15)) (fun _ _ => False)) : EV Γ ML_law d 1087 [some (.ref v0), some (.ref v1), some (.ref v2), some (.ref v3), some (.ref v4), some (.int v5), none, none, none] [] σ Q := by
  refine EV.aload_n 1088 rfl 1 rfl rfl dL_law_1087 ?_
  refine EV.aload_n 1089 rfl 0 rfl rfl dL_law_1088 ?_
  refine EV.iload 1091 rfl rfl dL_law_1089 ?_
  refine EV.iconst 1092 rfl dL_law_1091 (v := 1) (by decide) ?_
  refine EV.iadd 1093 rfl dL_law_1092 ?_
  obtain ⟨n2, w1, h⟩ := h
  obtain ⟨j3, x4, h⟩ := h
  refine EV.ialdS 1094 rfl dL_law_1093 w1 x4 ?_
  refine EV.aload_n 1095 rfl 0 rfl rfl dL_law_1094 ?_
  refine EV.iload 1097 rfl rfl dL_law_1095 ?_
  refine EV.iconst 1098 rfl dL_law_1097 (v := 2) (by decide) ?_
  refine EV.iadd 1099 rfl dL_law_1098 ?_
  obtain ⟨j5, x6, h⟩ := h
  refine EV.ialdS 1100 rfl dL_law_1099 w1 x6 ?_
  refine EV.aload_n 1101 rfl 3 rfl rfl dL_law_1100 ?_
  refine EV.cSW rfl lk_L_201 rfl (vs := [.ref v1, .int (gi σ v0 j3), .int (gi σ v0 j5), .ref v3]) (st := []) rfl rfl (Nat.le_of_ble_eq_true rfl) dL_law_1101 h (fun v σ7 h => ?_)
  obtain ⟨r8, rfl, h⟩ := h
  show EV Γ ML_law d 1104 [some (.ref v0), some (.ref v1), some (.ref v2), some (.ref v3), some (.ref v4), some (.int v5), none, none, none] [.int r8] σ7 Q
  refine EV.istore 1106 rfl [some (.ref v0), some (.ref v1), some (.ref v2), some (.ref v3), some (.ref v4), some (.int v5), some (.int r8), none, none] (by decide) rfl dL_law_1104 ?_
  refine EV.aload_n 1107 rfl 2 rfl rfl dL_law_1106 ?_
  refine EV.aload_n 1108 rfl 0 rfl rfl dL_law_1107 ?_
  refine EV.iload 1110 rfl rfl dL_law_1108 ?_
  refine EV.iconst 1111 rfl dL_law_1110 (v := 1) (by decide) ?_
  refine EV.iadd 1112 rfl dL_law_1111 ?_
  obtain ⟨n10, w9, h⟩ := h
  obtain ⟨j11, x12, h⟩ := h
  refine EV.ialdS 1113 rfl dL_law_1112 w9 x12 ?_
  refine EV.aload_n 1114 rfl 0 rfl rfl dL_law_1113 ?_
  refine EV.iload 1116 rfl rfl dL_law_1114 ?_
  refine EV.iconst 1117 rfl dL_law_1116 (v := 2) (by decide) ?_
  refine EV.iadd 1118 rfl dL_law_1117 ?_
  obtain ⟨j13, x14, h⟩ := h
  refine EV.ialdS 1119 rfl dL_law_1118 w9 x14 ?_
  obtain ⟨w17, h⟩ := h
  refine EV.cV rfl rfl lk_L_203 rfl (vs := [.int (gi σ7 v0 j11), .int (gi σ7 v0 j13)]) (st := []) rfl rfl (Nat.le_of_ble_eq_true rfl) dL_law_1119 w17 h (fun v σ15 h => ?_)
  obtain ⟨r16, rfl, h⟩ := h
  show EV Γ ML_law d 1122 [some (.ref v0), some (.ref v1), some (.ref v2), some (.ref v3), some (.ref v4), some (.int v5), some (.int r8), none, none] [.int r16] σ15 Q
  refine EV.istore 1124 rfl [some (.ref v0), some (.ref v1), some (.ref v2), some (.ref v3), some (.ref v4), some (.int v5), some (.int r8), some (.int r16), none] (by decide) rfl dL_law_1122 ?_
  refine EV.aload_n 1125 rfl 2 rfl rfl dL_law_1124 ?_
  obtain ⟨w20, h⟩ := h
  refine EV.cV rfl rfl lk_L_147 rfl (vs := []) (st := []) rfl rfl (Nat.le_of_ble_eq_true rfl) dL_law_1125 w20 h (fun v σ18 h => ?_)
  obtain ⟨r19, rfl, h⟩ := h
  show EV Γ ML_law d 1128 [some (.ref v0), some (.ref v1), some (.ref v2), some (.ref v3), some (.ref v4), some (.int v5), some (.int r8), some (.int r16), none] [.int r19] σ18 Q
  refine EV.iload 1130 rfl rfl dL_law_1128 ?_
  refine EV.icmp_eq 1133 1135 rfl (by decide) dL_law_1130 (fun c21 => ?_) (fun c21 => ?_)
  · have h := h.1 c21
    refine EV.iload 1137 rfl rfl dL_law_1135 ?_
    refine EV.if_ne 1140 1152 rfl (by decide) dL_law_1137 (fun c22 => ?_) (fun c22 => ?_)
    · have h := h.1 c22
      refine EV.goto 2703 (by decide) dL_law_1152 ?_
      refine EV.mask [true, true, true, true, true, true, false, false, false] (L' := [some (.ref v0), some (.ref v1), some (.ref v2), some (.ref v3), some (.ref v4), some (.int v5), none, none, none]) rfl ?_
      exact h
    · have h := h.2 c22
      refine EV.aload_n 1141 rfl 3 rfl rfl dL_law_1140 ?_
      refine EV.iconst 1142 rfl dL_law_1141 (v := 0) (by decide) ?_
      obtain ⟨n24, w23, h⟩ := h
      obtain ⟨j25, x26, h⟩ := h
      refine EV.lald 1143 rfl dL_law_1142 w23 x26 ?_
      refine EV.iload 1145 rfl rfl dL_law_1143 ?_
      refine EV.i2l 1146 rfl dL_law_1145 ?_
      refine EV.lcmp 1147 rfl dL_law_1146 ?_
      refine EV.if_eq 1150 1152 rfl (by decide) dL_law_1147 (fun c27 => ?_) (fun c27 => ?_)
      · have h := h.1 c27
        refine EV.goto 2703 (by decide) dL_law_1152 ?_
        refine EV.mask [true, true, true, true, true, true, false, false, false] (L' := [some (.ref v0), some (.ref v1), some (.ref v2), some (.ref v3), some (.ref v4), some (.int v5), none, none, none]) rfl ?_
        exact h
      · have h := h.2 c27
        refine EV.iconst 1151 rfl dL_law_1150 (v := 0) (by decide) ?_
        exact EV.zret rfl rfl dL_law_1151 h
  · have h := h.2 c21
    refine EV.iconst 1134 rfl dL_law_1133 (v := 0) (by decide) ?_
    exact EV.zret rfl rfl dL_law_1134 h
theorem gL_law_1155 {Γ : Gm} {d : Nat} {σ : AH} {Q : Oc → AH → Prop} {v0 : Nat} {v1 : Nat} {v2 : Nat} {v3 : Nat} {v4 : Nat} {v5 : Int32} (h : ∃ n2 : Nat, hs σ v0 = some (28, n2) ∧ ∃ j3 : Nat, IX (v5 + 1) n2 j3 ∧ ∃ j5 : Nat, IX (v5 + 2) n2 j5 ∧ CI Γ d ML_quotient [.ref v1, .int (gi σ v0 j3), .int (gi σ v0 j5), .ref v3] σ (fun r8 σ7 => ∃ n10 : Nat, hs σ7 v0 = some (28, n10) ∧ ∃ j11 : Nat, IX (v5 + 1) n10 j11 ∧ ∃ j13 : Nat, IX (v5 + 2) n10 j13 ∧ hs σ7 v2 = some (7, 27) ∧ CI Γ d MX9_quotient [.ref v2, .int (gi σ7 v0 j11), .int (gi σ7 v0 j13)] σ7 (fun r16 σ15 => hs σ15 v2 = some (7, 27) ∧ CI Γ d MX9_thrown [.ref v2] σ15 (fun r19 σ18 => ((r19 = r8 → ((r8 ≠ 0 → EV Γ ML_law d 2703 [some (.ref v0), some (.ref v1), some (.ref v2), some (.ref v3), some (.ref v4), some (.int v5), none, none, none] [] σ18 Q) ∧ (r8 = 0 → ∃ n24 : Nat, hs σ18 v3 = some (23, n24) ∧ ∃ j25 : Nat, IX 0 n24 j25 ∧ (((lg_cmp (gj σ18 v3 j25) (Int32.toInt64 r16)) = 0 → EV Γ ML_law d 2703 [some (.ref v0), some (.ref v1), some (.ref v2), some (.ref v3), some (.ref v4), some (.int v5), none, none, none] [] σ18 Q) ∧ (¬ (lg_cmp (gj σ18 v3 j25) (Int32.toInt64 r16)) = 0 → Q (.inl (some (.int 0))) σ18))))) ∧ (¬ r19 = r8 → Q (.inl (some (.int 0))) σ18))) (fun E σ18 => Q (.inr E) σ18)) (fun E σ15 => Q (.inr E) σ15)) (fun _ _ => False)) : EV Γ ML_law d 1155 [some (.ref v0), some (.ref v1), some (.ref v2), some (.ref v3), some (.ref v4), some (.int v5), none, none, none] [] σ Q := by
  refine EV.aload_n 1156 rfl 1 rfl rfl dL_law_1155 ?_
  refine EV.aload_n 1157 rfl 0 rfl rfl dL_law_1156 ?_
  refine EV.iload 1159 rfl rfl dL_law_1157 ?_
  refine EV.iconst 1160 rfl dL_law_1159 (v := 1) (by decide) ?_
  refine EV.iadd 1161 rfl dL_law_1160 ?_
  obtain ⟨n2, w1, h⟩ := h
  obtain ⟨j3, x4, h⟩ := h
  refine EV.ialdS 1162 rfl dL_law_1161 w1 x4 ?_
  refine EV.aload_n 1163 rfl 0 rfl rfl dL_law_1162 ?_
  refine EV.iload 1165 rfl rfl dL_law_1163 ?_
  refine EV.iconst 1166 rfl dL_law_1165 (v := 2) (by decide) ?_
  refine EV.iadd 1167 rfl dL_law_1166 ?_
  obtain ⟨j5, x6, h⟩ := h
  refine EV.ialdS 1168 rfl dL_law_1167 w1 x6 ?_
  refine EV.aload_n 1169 rfl 3 rfl rfl dL_law_1168 ?_
  refine EV.cSW rfl lk_L_204 rfl (vs := [.ref v1, .int (gi σ v0 j3), .int (gi σ v0 j5), .ref v3]) (st := []) rfl rfl (Nat.le_of_ble_eq_true rfl) dL_law_1169 h (fun v σ7 h => ?_)
  obtain ⟨r8, rfl, h⟩ := h
  show EV Γ ML_law d 1172 [some (.ref v0), some (.ref v1), some (.ref v2), some (.ref v3), some (.ref v4), some (.int v5), none, none, none] [.int r8] σ7 Q
  refine EV.istore 1174 rfl [some (.ref v0), some (.ref v1), some (.ref v2), some (.ref v3), some (.ref v4), some (.int v5), some (.int r8), none, none] (by decide) rfl dL_law_1172 ?_
  refine EV.aload_n 1175 rfl 2 rfl rfl dL_law_1174 ?_
  refine EV.aload_n 1176 rfl 0 rfl rfl dL_law_1175 ?_
  refine EV.iload 1178 rfl rfl dL_law_1176 ?_
  refine EV.iconst 1179 rfl dL_law_1178 (v := 1) (by decide) ?_
  refine EV.iadd 1180 rfl dL_law_1179 ?_
  obtain ⟨n10, w9, h⟩ := h
  obtain ⟨j11, x12, h⟩ := h
  refine EV.ialdS 1181 rfl dL_law_1180 w9 x12 ?_
  refine EV.aload_n 1182 rfl 0 rfl rfl dL_law_1181 ?_
  refine EV.iload 1184 rfl rfl dL_law_1182 ?_
  refine EV.iconst 1185 rfl dL_law_1184 (v := 2) (by decide) ?_
  refine EV.iadd 1186 rfl dL_law_1185 ?_
  obtain ⟨j13, x14, h⟩ := h
  refine EV.ialdS 1187 rfl dL_law_1186 w9 x14 ?_
  obtain ⟨w17, h⟩ := h
  refine EV.cV rfl rfl lk_L_206 rfl (vs := [.int (gi σ7 v0 j11), .int (gi σ7 v0 j13)]) (st := []) rfl rfl (Nat.le_of_ble_eq_true rfl) dL_law_1187 w17 h (fun v σ15 h => ?_)
  obtain ⟨r16, rfl, h⟩ := h
  show EV Γ ML_law d 1190 [some (.ref v0), some (.ref v1), some (.ref v2), some (.ref v3), some (.ref v4), some (.int v5), some (.int r8), none, none] [.int r16] σ15 Q
  refine EV.istore 1192 rfl [some (.ref v0), some (.ref v1), some (.ref v2), some (.ref v3), some (.ref v4), some (.int v5), some (.int r8), some (.int r16), none] (by decide) rfl dL_law_1190 ?_
  refine EV.aload_n 1193 rfl 2 rfl rfl dL_law_1192 ?_
  obtain ⟨w20, h⟩ := h
  refine EV.cV rfl rfl lk_L_147 rfl (vs := []) (st := []) rfl rfl (Nat.le_of_ble_eq_true rfl) dL_law_1193 w20 h (fun v σ18 h => ?_)
  obtain ⟨r19, rfl, h⟩ := h
  show EV Γ ML_law d 1196 [some (.ref v0), some (.ref v1), some (.ref v2), some (.ref v3), some (.ref v4), some (.int v5), some (.int r8), some (.int r16), none] [.int r19] σ18 Q
  refine EV.iload 1198 rfl rfl dL_law_1196 ?_
  refine EV.icmp_eq 1201 1203 rfl (by decide) dL_law_1198 (fun c21 => ?_) (fun c21 => ?_)
  · have h := h.1 c21
    refine EV.iload 1205 rfl rfl dL_law_1203 ?_
    refine EV.if_ne 1208 1220 rfl (by decide) dL_law_1205 (fun c22 => ?_) (fun c22 => ?_)
    · have h := h.1 c22
      refine EV.goto 2703 (by decide) dL_law_1220 ?_
      refine EV.mask [true, true, true, true, true, true, false, false, false] (L' := [some (.ref v0), some (.ref v1), some (.ref v2), some (.ref v3), some (.ref v4), some (.int v5), none, none, none]) rfl ?_
      exact h
    · have h := h.2 c22
      refine EV.aload_n 1209 rfl 3 rfl rfl dL_law_1208 ?_
      refine EV.iconst 1210 rfl dL_law_1209 (v := 0) (by decide) ?_
      obtain ⟨n24, w23, h⟩ := h
      obtain ⟨j25, x26, h⟩ := h
      refine EV.lald 1211 rfl dL_law_1210 w23 x26 ?_
      refine EV.iload 1213 rfl rfl dL_law_1211 ?_
      refine EV.i2l 1214 rfl dL_law_1213 ?_
      refine EV.lcmp 1215 rfl dL_law_1214 ?_
      refine EV.if_eq 1218 1220 rfl (by decide) dL_law_1215 (fun c27 => ?_) (fun c27 => ?_)
      · have h := h.1 c27
        refine EV.goto 2703 (by decide) dL_law_1220 ?_
        refine EV.mask [true, true, true, true, true, true, false, false, false] (L' := [some (.ref v0), some (.ref v1), some (.ref v2), some (.ref v3), some (.ref v4), some (.int v5), none, none, none]) rfl ?_
        exact h
      · have h := h.2 c27
        refine EV.iconst 1219 rfl dL_law_1218 (v := 0) (by decide) ?_
        exact EV.zret rfl rfl dL_law_1219 h
  · have h := h.2 c21
    refine EV.iconst 1202 rfl dL_law_1201 (v := 0) (by decide) ?_
    exact EV.zret rfl rfl dL_law_1202 h
theorem gL_law_1223 {Γ : Gm} {d : Nat} {σ : AH} {Q : Oc → AH → Prop} {v0 : Nat} {v1 : Nat} {v2 : Nat} {v3 : Nat} {v4 : Nat} {v5 : Int32} (h : ∃ n2 : Nat, hs σ v0 = some (28, n2) ∧ ∃ j3 : Nat, IX (v5 + 1) n2 j3 ∧ ∃ j5 : Nat, IX (v5 + 2) n2 j5 ∧ CI Γ d ML_remainder [.ref v1, .int (gi σ v0 j3), .int (gi σ v0 j5), .ref v3] σ (fun r8 σ7 => ∃ n10 : Nat, hs σ7 v0 = some (28, n10) ∧ ∃ j11 : Nat, IX (v5 + 1) n10 j11 ∧ ∃ j13 : Nat, IX (v5 + 2) n10 j13 ∧ hs σ7 v2 = some (7, 27) ∧ CI Γ d MX9_remainder [.ref v2, .int (gi σ7 v0 j11), .int (gi σ7 v0 j13)] σ7 (fun r16 σ15 => hs σ15 v2 = some (7, 27) ∧ CI Γ d MX9_thrown [.ref v2] σ15 (fun r19 σ18 => ((r19 = r8 → ((r8 ≠ 0 → EV Γ ML_law d 2703 [some (.ref v0), some (.ref v1), some (.ref v2), some (.ref v3), some (.ref v4), some (.int v5), none, none, none] [] σ18 Q) ∧ (r8 = 0 → ∃ n24 : Nat, hs σ18 v3 = some (23, n24) ∧ ∃ j25 : Nat, IX 0 n24 j25 ∧ (((lg_cmp (gj σ18 v3 j25) (Int32.toInt64 r16)) = 0 → EV Γ ML_law d 2703 [some (.ref v0), some (.ref v1), some (.ref v2), some (.ref v3), some (.ref v4), some (.int v5), none, none, none] [] σ18 Q) ∧ (¬ (lg_cmp (gj σ18 v3 j25) (Int32.toInt64 r16)) = 0 → Q (.inl (some (.int 0))) σ18))))) ∧ (¬ r19 = r8 → Q (.inl (some (.int 0))) σ18))) (fun E σ18 => Q (.inr E) σ18)) (fun E σ15 => Q (.inr E) σ15)) (fun _ _ => False)) : EV Γ ML_law d 1223 [some (.ref v0), some (.ref v1), some (.ref v2), some (.ref v3), some (.ref v4), some (.int v5), none, none, none] [] σ Q := by
  refine EV.aload_n 1224 rfl 1 rfl rfl dL_law_1223 ?_
  refine EV.aload_n 1225 rfl 0 rfl rfl dL_law_1224 ?_
  refine EV.iload 1227 rfl rfl dL_law_1225 ?_
  refine EV.iconst 1228 rfl dL_law_1227 (v := 1) (by decide) ?_
  refine EV.iadd 1229 rfl dL_law_1228 ?_
  obtain ⟨n2, w1, h⟩ := h
  obtain ⟨j3, x4, h⟩ := h
  refine EV.ialdS 1230 rfl dL_law_1229 w1 x4 ?_
  refine EV.aload_n 1231 rfl 0 rfl rfl dL_law_1230 ?_
  refine EV.iload 1233 rfl rfl dL_law_1231 ?_
  refine EV.iconst 1234 rfl dL_law_1233 (v := 2) (by decide) ?_
  refine EV.iadd 1235 rfl dL_law_1234 ?_
  obtain ⟨j5, x6, h⟩ := h
  refine EV.ialdS 1236 rfl dL_law_1235 w1 x6 ?_
  refine EV.aload_n 1237 rfl 3 rfl rfl dL_law_1236 ?_
  refine EV.cSW rfl lk_L_207 rfl (vs := [.ref v1, .int (gi σ v0 j3), .int (gi σ v0 j5), .ref v3]) (st := []) rfl rfl (Nat.le_of_ble_eq_true rfl) dL_law_1237 h (fun v σ7 h => ?_)
  obtain ⟨r8, rfl, h⟩ := h
  show EV Γ ML_law d 1240 [some (.ref v0), some (.ref v1), some (.ref v2), some (.ref v3), some (.ref v4), some (.int v5), none, none, none] [.int r8] σ7 Q
  refine EV.istore 1242 rfl [some (.ref v0), some (.ref v1), some (.ref v2), some (.ref v3), some (.ref v4), some (.int v5), some (.int r8), none, none] (by decide) rfl dL_law_1240 ?_
  refine EV.aload_n 1243 rfl 2 rfl rfl dL_law_1242 ?_
  refine EV.aload_n 1244 rfl 0 rfl rfl dL_law_1243 ?_
  refine EV.iload 1246 rfl rfl dL_law_1244 ?_
  refine EV.iconst 1247 rfl dL_law_1246 (v := 1) (by decide) ?_
  refine EV.iadd 1248 rfl dL_law_1247 ?_
  obtain ⟨n10, w9, h⟩ := h
  obtain ⟨j11, x12, h⟩ := h
  refine EV.ialdS 1249 rfl dL_law_1248 w9 x12 ?_
  refine EV.aload_n 1250 rfl 0 rfl rfl dL_law_1249 ?_
  refine EV.iload 1252 rfl rfl dL_law_1250 ?_
  refine EV.iconst 1253 rfl dL_law_1252 (v := 2) (by decide) ?_
  refine EV.iadd 1254 rfl dL_law_1253 ?_
  obtain ⟨j13, x14, h⟩ := h
  refine EV.ialdS 1255 rfl dL_law_1254 w9 x14 ?_
  obtain ⟨w17, h⟩ := h
  refine EV.cV rfl rfl lk_L_209 rfl (vs := [.int (gi σ7 v0 j11), .int (gi σ7 v0 j13)]) (st := []) rfl rfl (Nat.le_of_ble_eq_true rfl) dL_law_1255 w17 h (fun v σ15 h => ?_)
  obtain ⟨r16, rfl, h⟩ := h
  show EV Γ ML_law d 1258 [some (.ref v0), some (.ref v1), some (.ref v2), some (.ref v3), some (.ref v4), some (.int v5), some (.int r8), none, none] [.int r16] σ15 Q
  refine EV.istore 1260 rfl [some (.ref v0), some (.ref v1), some (.ref v2), some (.ref v3), some (.ref v4), some (.int v5), some (.int r8), some (.int r16), none] (by decide) rfl dL_law_1258 ?_
  refine EV.aload_n 1261 rfl 2 rfl rfl dL_law_1260 ?_
  obtain ⟨w20, h⟩ := h
  refine EV.cV rfl rfl lk_L_147 rfl (vs := []) (st := []) rfl rfl (Nat.le_of_ble_eq_true rfl) dL_law_1261 w20 h (fun v σ18 h => ?_)
  obtain ⟨r19, rfl, h⟩ := h
  show EV Γ ML_law d 1264 [some (.ref v0), some (.ref v1), some (.ref v2), some (.ref v3), some (.ref v4), some (.int v5), some (.int r8), some (.int r16), none] [.int r19] σ18 Q
  refine EV.iload 1266 rfl rfl dL_law_1264 ?_
  refine EV.icmp_eq 1269 1271 rfl (by decide) dL_law_1266 (fun c21 => ?_) (fun c21 => ?_)
  · have h := h.1 c21
    refine EV.iload 1273 rfl rfl dL_law_1271 ?_
    refine EV.if_ne 1276 1288 rfl (by decide) dL_law_1273 (fun c22 => ?_) (fun c22 => ?_)
    · have h := h.1 c22
      refine EV.goto 2703 (by decide) dL_law_1288 ?_
      refine EV.mask [true, true, true, true, true, true, false, false, false] (L' := [some (.ref v0), some (.ref v1), some (.ref v2), some (.ref v3), some (.ref v4), some (.int v5), none, none, none]) rfl ?_
      exact h
    · have h := h.2 c22
      refine EV.aload_n 1277 rfl 3 rfl rfl dL_law_1276 ?_
      refine EV.iconst 1278 rfl dL_law_1277 (v := 0) (by decide) ?_
      obtain ⟨n24, w23, h⟩ := h
      obtain ⟨j25, x26, h⟩ := h
      refine EV.lald 1279 rfl dL_law_1278 w23 x26 ?_
      refine EV.iload 1281 rfl rfl dL_law_1279 ?_
      refine EV.i2l 1282 rfl dL_law_1281 ?_
      refine EV.lcmp 1283 rfl dL_law_1282 ?_
      refine EV.if_eq 1286 1288 rfl (by decide) dL_law_1283 (fun c27 => ?_) (fun c27 => ?_)
      · have h := h.1 c27
        refine EV.goto 2703 (by decide) dL_law_1288 ?_
        refine EV.mask [true, true, true, true, true, true, false, false, false] (L' := [some (.ref v0), some (.ref v1), some (.ref v2), some (.ref v3), some (.ref v4), some (.int v5), none, none, none]) rfl ?_
        exact h
      · have h := h.2 c27
        refine EV.iconst 1287 rfl dL_law_1286 (v := 0) (by decide) ?_
        exact EV.zret rfl rfl dL_law_1287 h
  · have h := h.2 c21
    refine EV.iconst 1270 rfl dL_law_1269 (v := 0) (by decide) ?_
    exact EV.zret rfl rfl dL_law_1270 h
theorem gL_law_1291 {Γ : Gm} {d : Nat} {σ : AH} {Q : Oc → AH → Prop} {v0 : Nat} {v1 : Nat} {v2 : Nat} {v3 : Nat} {v4 : Nat} {v5 : Int32} (h : ∃ n2 : Nat, hs σ v0 = some (28, n2) ∧ ∃ j3 : Nat, IX (v5 + 1) n2 j3 ∧ ∃ j5 : Nat, IX (v5 + 2) n2 j5 ∧ CI Γ d ML_supersets [.ref v1, .int (gi σ v0 j3), .int (gi σ v0 j5), .ref v3] σ (fun r8 σ7 => ∃ n10 : Nat, hs σ7 v0 = some (28, n10) ∧ ∃ j11 : Nat, IX (v5 + 1) n10 j11 ∧ ∃ j13 : Nat, IX (v5 + 2) n10 j13 ∧ hs σ7 v2 = some (7, 27) ∧ CI Γ d MX9_supersets [.ref v2, .int (gi σ7 v0 j11), .int (gi σ7 v0 j13)] σ7 (fun r16 σ15 => hs σ15 v2 = some (7, 27) ∧ CI Γ d MX9_thrown [.ref v2] σ15 (fun r19 σ18 => ((r19 = r8 → ((r8 ≠ 0 → EV Γ ML_law d 2703 [some (.ref v0), some (.ref v1), some (.ref v2), some (.ref v3), some (.ref v4), some (.int v5), none, none, none] [] σ18 Q) ∧ (r8 = 0 → ∃ n24 : Nat, hs σ18 v3 = some (23, n24) ∧ ∃ j25 : Nat, IX 0 n24 j25 ∧ (((lg_cmp (gj σ18 v3 j25) (Int32.toInt64 r16)) = 0 → EV Γ ML_law d 2703 [some (.ref v0), some (.ref v1), some (.ref v2), some (.ref v3), some (.ref v4), some (.int v5), none, none, none] [] σ18 Q) ∧ (¬ (lg_cmp (gj σ18 v3 j25) (Int32.toInt64 r16)) = 0 → Q (.inl (some (.int 0))) σ18))))) ∧ (¬ r19 = r8 → Q (.inl (some (.int 0))) σ18))) (fun E σ18 => Q (.inr E) σ18)) (fun E σ15 => Q (.inr E) σ15)) (fun _ _ => False)) : EV Γ ML_law d 1291 [some (.ref v0), some (.ref v1), some (.ref v2), some (.ref v3), some (.ref v4), some (.int v5), none, none, none] [] σ Q := by
  refine EV.aload_n 1292 rfl 1 rfl rfl dL_law_1291 ?_
  refine EV.aload_n 1293 rfl 0 rfl rfl dL_law_1292 ?_
  refine EV.iload 1295 rfl rfl dL_law_1293 ?_
  refine EV.iconst 1296 rfl dL_law_1295 (v := 1) (by decide) ?_
  refine EV.iadd 1297 rfl dL_law_1296 ?_
  obtain ⟨n2, w1, h⟩ := h
  obtain ⟨j3, x4, h⟩ := h
  refine EV.ialdS 1298 rfl dL_law_1297 w1 x4 ?_
  refine EV.aload_n 1299 rfl 0 rfl rfl dL_law_1298 ?_
  refine EV.iload 1301 rfl rfl dL_law_1299 ?_
  refine EV.iconst 1302 rfl dL_law_1301 (v := 2) (by decide) ?_
  refine EV.iadd 1303 rfl dL_law_1302 ?_
  obtain ⟨j5, x6, h⟩ := h
  refine EV.ialdS 1304 rfl dL_law_1303 w1 x6 ?_
  refine EV.aload_n 1305 rfl 3 rfl rfl dL_law_1304 ?_
  refine EV.cSW rfl lk_L_210 rfl (vs := [.ref v1, .int (gi σ v0 j3), .int (gi σ v0 j5), .ref v3]) (st := []) rfl rfl (Nat.le_of_ble_eq_true rfl) dL_law_1305 h (fun v σ7 h => ?_)
  obtain ⟨r8, rfl, h⟩ := h
  show EV Γ ML_law d 1308 [some (.ref v0), some (.ref v1), some (.ref v2), some (.ref v3), some (.ref v4), some (.int v5), none, none, none] [.int r8] σ7 Q
  refine EV.istore 1310 rfl [some (.ref v0), some (.ref v1), some (.ref v2), some (.ref v3), some (.ref v4), some (.int v5), some (.int r8), none, none] (by decide) rfl dL_law_1308 ?_
  refine EV.aload_n 1311 rfl 2 rfl rfl dL_law_1310 ?_
  refine EV.aload_n 1312 rfl 0 rfl rfl dL_law_1311 ?_
  refine EV.iload 1314 rfl rfl dL_law_1312 ?_
  refine EV.iconst 1315 rfl dL_law_1314 (v := 1) (by decide) ?_
  refine EV.iadd 1316 rfl dL_law_1315 ?_
  obtain ⟨n10, w9, h⟩ := h
  obtain ⟨j11, x12, h⟩ := h
  refine EV.ialdS 1317 rfl dL_law_1316 w9 x12 ?_
  refine EV.aload_n 1318 rfl 0 rfl rfl dL_law_1317 ?_
  refine EV.iload 1320 rfl rfl dL_law_1318 ?_
  refine EV.iconst 1321 rfl dL_law_1320 (v := 2) (by decide) ?_
  refine EV.iadd 1322 rfl dL_law_1321 ?_
  obtain ⟨j13, x14, h⟩ := h
  refine EV.ialdS 1323 rfl dL_law_1322 w9 x14 ?_
  obtain ⟨w17, h⟩ := h
  refine EV.cV rfl rfl lk_L_212 rfl (vs := [.int (gi σ7 v0 j11), .int (gi σ7 v0 j13)]) (st := []) rfl rfl (Nat.le_of_ble_eq_true rfl) dL_law_1323 w17 h (fun v σ15 h => ?_)
  obtain ⟨r16, rfl, h⟩ := h
  show EV Γ ML_law d 1326 [some (.ref v0), some (.ref v1), some (.ref v2), some (.ref v3), some (.ref v4), some (.int v5), some (.int r8), none, none] [.int r16] σ15 Q
  refine EV.istore 1328 rfl [some (.ref v0), some (.ref v1), some (.ref v2), some (.ref v3), some (.ref v4), some (.int v5), some (.int r8), some (.int r16), none] (by decide) rfl dL_law_1326 ?_
  refine EV.aload_n 1329 rfl 2 rfl rfl dL_law_1328 ?_
  obtain ⟨w20, h⟩ := h
  refine EV.cV rfl rfl lk_L_147 rfl (vs := []) (st := []) rfl rfl (Nat.le_of_ble_eq_true rfl) dL_law_1329 w20 h (fun v σ18 h => ?_)
  obtain ⟨r19, rfl, h⟩ := h
  show EV Γ ML_law d 1332 [some (.ref v0), some (.ref v1), some (.ref v2), some (.ref v3), some (.ref v4), some (.int v5), some (.int r8), some (.int r16), none] [.int r19] σ18 Q
  refine EV.iload 1334 rfl rfl dL_law_1332 ?_
  refine EV.icmp_eq 1337 1339 rfl (by decide) dL_law_1334 (fun c21 => ?_) (fun c21 => ?_)
  · have h := h.1 c21
    refine EV.iload 1341 rfl rfl dL_law_1339 ?_
    refine EV.if_ne 1344 1356 rfl (by decide) dL_law_1341 (fun c22 => ?_) (fun c22 => ?_)
    · have h := h.1 c22
      refine EV.goto 2703 (by decide) dL_law_1356 ?_
      refine EV.mask [true, true, true, true, true, true, false, false, false] (L' := [some (.ref v0), some (.ref v1), some (.ref v2), some (.ref v3), some (.ref v4), some (.int v5), none, none, none]) rfl ?_
      exact h
    · have h := h.2 c22
      refine EV.aload_n 1345 rfl 3 rfl rfl dL_law_1344 ?_
      refine EV.iconst 1346 rfl dL_law_1345 (v := 0) (by decide) ?_
      obtain ⟨n24, w23, h⟩ := h
      obtain ⟨j25, x26, h⟩ := h
      refine EV.lald 1347 rfl dL_law_1346 w23 x26 ?_
      refine EV.iload 1349 rfl rfl dL_law_1347 ?_
      refine EV.i2l 1350 rfl dL_law_1349 ?_
      refine EV.lcmp 1351 rfl dL_law_1350 ?_
      refine EV.if_eq 1354 1356 rfl (by decide) dL_law_1351 (fun c27 => ?_) (fun c27 => ?_)
      · have h := h.1 c27
        refine EV.goto 2703 (by decide) dL_law_1356 ?_
        refine EV.mask [true, true, true, true, true, true, false, false, false] (L' := [some (.ref v0), some (.ref v1), some (.ref v2), some (.ref v3), some (.ref v4), some (.int v5), none, none, none]) rfl ?_
        exact h
      · have h := h.2 c27
        refine EV.iconst 1355 rfl dL_law_1354 (v := 0) (by decide) ?_
        exact EV.zret rfl rfl dL_law_1355 h
  · have h := h.2 c21
    refine EV.iconst 1338 rfl dL_law_1337 (v := 0) (by decide) ?_
    exact EV.zret rfl rfl dL_law_1338 h
theorem gL_law_1359 {Γ : Gm} {d : Nat} {σ : AH} {Q : Oc → AH → Prop} {v0 : Nat} {v1 : Nat} {v2 : Nat} {v3 : Nat} {v4 : Nat} {v5 : Int32} (h : ∃ n2 : Nat, hs σ v0 = some (28, n2) ∧ ∃ j3 : Nat, IX (v5 + 1) n2 j3 ∧ ∃ j5 : Nat, IX (v5 + 2) n2 j5 ∧ CI Γ d ML_subsets [.ref v1, .int (gi σ v0 j3), .int (gi σ v0 j5), .ref v3] σ (fun r8 σ7 => ∃ n10 : Nat, hs σ7 v0 = some (28, n10) ∧ ∃ j11 : Nat, IX (v5 + 1) n10 j11 ∧ ∃ j13 : Nat, IX (v5 + 2) n10 j13 ∧ hs σ7 v2 = some (7, 27) ∧ CI Γ d MX9_subsets [.ref v2, .int (gi σ7 v0 j11), .int (gi σ7 v0 j13)] σ7 (fun r16 σ15 => hs σ15 v2 = some (7, 27) ∧ CI Γ d MX9_thrown [.ref v2] σ15 (fun r19 σ18 => ((r19 = r8 → ((r8 ≠ 0 → EV Γ ML_law d 2703 [some (.ref v0), some (.ref v1), some (.ref v2), some (.ref v3), some (.ref v4), some (.int v5), none, none, none] [] σ18 Q) ∧ (r8 = 0 → ∃ n24 : Nat, hs σ18 v3 = some (23, n24) ∧ ∃ j25 : Nat, IX 0 n24 j25 ∧ (((lg_cmp (gj σ18 v3 j25) (Int32.toInt64 r16)) = 0 → EV Γ ML_law d 2703 [some (.ref v0), some (.ref v1), some (.ref v2), some (.ref v3), some (.ref v4), some (.int v5), none, none, none] [] σ18 Q) ∧ (¬ (lg_cmp (gj σ18 v3 j25) (Int32.toInt64 r16)) = 0 → Q (.inl (some (.int 0))) σ18))))) ∧ (¬ r19 = r8 → Q (.inl (some (.int 0))) σ18))) (fun E σ18 => Q (.inr E) σ18)) (fun E σ15 => Q (.inr E) σ15)) (fun _ _ => False)) : EV Γ ML_law d 1359 [some (.ref v0), some (.ref v1), some (.ref v2), some (.ref v3), some (.ref v4), some (.int v5), none, none, none] [] σ Q := by
  refine EV.aload_n 1360 rfl 1 rfl rfl dL_law_1359 ?_
  refine EV.aload_n 1361 rfl 0 rfl rfl dL_law_1360 ?_
  refine EV.iload 1363 rfl rfl dL_law_1361 ?_
  refine EV.iconst 1364 rfl dL_law_1363 (v := 1) (by decide) ?_
  refine EV.iadd 1365 rfl dL_law_1364 ?_
  obtain ⟨n2, w1, h⟩ := h
  obtain ⟨j3, x4, h⟩ := h
  refine EV.ialdS 1366 rfl dL_law_1365 w1 x4 ?_
  refine EV.aload_n 1367 rfl 0 rfl rfl dL_law_1366 ?_
  refine EV.iload 1369 rfl rfl dL_law_1367 ?_
  refine EV.iconst 1370 rfl dL_law_1369 (v := 2) (by decide) ?_
  refine EV.iadd 1371 rfl dL_law_1370 ?_
  obtain ⟨j5, x6, h⟩ := h
  refine EV.ialdS 1372 rfl dL_law_1371 w1 x6 ?_
  refine EV.aload_n 1373 rfl 3 rfl rfl dL_law_1372 ?_
  refine EV.cSW rfl lk_L_213 rfl (vs := [.ref v1, .int (gi σ v0 j3), .int (gi σ v0 j5), .ref v3]) (st := []) rfl rfl (Nat.le_of_ble_eq_true rfl) dL_law_1373 h (fun v σ7 h => ?_)
  obtain ⟨r8, rfl, h⟩ := h
  show EV Γ ML_law d 1376 [some (.ref v0), some (.ref v1), some (.ref v2), some (.ref v3), some (.ref v4), some (.int v5), none, none, none] [.int r8] σ7 Q
  refine EV.istore 1378 rfl [some (.ref v0), some (.ref v1), some (.ref v2), some (.ref v3), some (.ref v4), some (.int v5), some (.int r8), none, none] (by decide) rfl dL_law_1376 ?_
  refine EV.aload_n 1379 rfl 2 rfl rfl dL_law_1378 ?_
  refine EV.aload_n 1380 rfl 0 rfl rfl dL_law_1379 ?_
  refine EV.iload 1382 rfl rfl dL_law_1380 ?_
  refine EV.iconst 1383 rfl dL_law_1382 (v := 1) (by decide) ?_
  refine EV.iadd 1384 rfl dL_law_1383 ?_
  obtain ⟨n10, w9, h⟩ := h
  obtain ⟨j11, x12, h⟩ := h
  refine EV.ialdS 1385 rfl dL_law_1384 w9 x12 ?_
  refine EV.aload_n 1386 rfl 0 rfl rfl dL_law_1385 ?_
  refine EV.iload 1388 rfl rfl dL_law_1386 ?_
  refine EV.iconst 1389 rfl dL_law_1388 (v := 2) (by decide) ?_
  refine EV.iadd 1390 rfl dL_law_1389 ?_
  obtain ⟨j13, x14, h⟩ := h
  refine EV.ialdS 1391 rfl dL_law_1390 w9 x14 ?_
  obtain ⟨w17, h⟩ := h
  refine EV.cV rfl rfl lk_L_215 rfl (vs := [.int (gi σ7 v0 j11), .int (gi σ7 v0 j13)]) (st := []) rfl rfl (Nat.le_of_ble_eq_true rfl) dL_law_1391 w17 h (fun v σ15 h => ?_)
  obtain ⟨r16, rfl, h⟩ := h
  show EV Γ ML_law d 1394 [some (.ref v0), some (.ref v1), some (.ref v2), some (.ref v3), some (.ref v4), some (.int v5), some (.int r8), none, none] [.int r16] σ15 Q
  refine EV.istore 1396 rfl [some (.ref v0), some (.ref v1), some (.ref v2), some (.ref v3), some (.ref v4), some (.int v5), some (.int r8), some (.int r16), none] (by decide) rfl dL_law_1394 ?_
  refine EV.aload_n 1397 rfl 2 rfl rfl dL_law_1396 ?_
  obtain ⟨w20, h⟩ := h
  refine EV.cV rfl rfl lk_L_147 rfl (vs := []) (st := []) rfl rfl (Nat.le_of_ble_eq_true rfl) dL_law_1397 w20 h (fun v σ18 h => ?_)
  obtain ⟨r19, rfl, h⟩ := h
  show EV Γ ML_law d 1400 [some (.ref v0), some (.ref v1), some (.ref v2), some (.ref v3), some (.ref v4), some (.int v5), some (.int r8), some (.int r16), none] [.int r19] σ18 Q
  refine EV.iload 1402 rfl rfl dL_law_1400 ?_
  refine EV.icmp_eq 1405 1407 rfl (by decide) dL_law_1402 (fun c21 => ?_) (fun c21 => ?_)
  · have h := h.1 c21
    refine EV.iload 1409 rfl rfl dL_law_1407 ?_
    refine EV.if_ne 1412 1424 rfl (by decide) dL_law_1409 (fun c22 => ?_) (fun c22 => ?_)
    · have h := h.1 c22
      refine EV.goto 2703 (by decide) dL_law_1424 ?_
      refine EV.mask [true, true, true, true, true, true, false, false, false] (L' := [some (.ref v0), some (.ref v1), some (.ref v2), some (.ref v3), some (.ref v4), some (.int v5), none, none, none]) rfl ?_
      exact h
    · have h := h.2 c22
      refine EV.aload_n 1413 rfl 3 rfl rfl dL_law_1412 ?_
      refine EV.iconst 1414 rfl dL_law_1413 (v := 0) (by decide) ?_
      obtain ⟨n24, w23, h⟩ := h
      obtain ⟨j25, x26, h⟩ := h
      refine EV.lald 1415 rfl dL_law_1414 w23 x26 ?_
      refine EV.iload 1417 rfl rfl dL_law_1415 ?_
      refine EV.i2l 1418 rfl dL_law_1417 ?_
      refine EV.lcmp 1419 rfl dL_law_1418 ?_
      refine EV.if_eq 1422 1424 rfl (by decide) dL_law_1419 (fun c27 => ?_) (fun c27 => ?_)
      · have h := h.1 c27
        refine EV.goto 2703 (by decide) dL_law_1424 ?_
        refine EV.mask [true, true, true, true, true, true, false, false, false] (L' := [some (.ref v0), some (.ref v1), some (.ref v2), some (.ref v3), some (.ref v4), some (.int v5), none, none, none]) rfl ?_
        exact h
      · have h := h.2 c27
        refine EV.iconst 1423 rfl dL_law_1422 (v := 0) (by decide) ?_
        exact EV.zret rfl rfl dL_law_1423 h
  · have h := h.2 c21
    refine EV.iconst 1406 rfl dL_law_1405 (v := 0) (by decide) ?_
    exact EV.zret rfl rfl dL_law_1406 h
theorem gL_law_1427 {Γ : Gm} {d : Nat} {σ : AH} {Q : Oc → AH → Prop} {v0 : Nat} {v1 : Nat} {v2 : Nat} {v3 : Nat} {v4 : Nat} {v5 : Int32} (h : ∃ n2 : Nat, hs σ v0 = some (28, n2) ∧ ∃ j3 : Nat, IX (v5 + 1) n2 j3 ∧ CI Γ d ML_maximal [.ref v1, .int (gi σ v0 j3), .ref v3] σ (fun r6 σ5 => ∃ n8 : Nat, hs σ5 v0 = some (28, n8) ∧ ∃ j9 : Nat, IX (v5 + 1) n8 j9 ∧ hs σ5 v2 = some (7, 27) ∧ CI Γ d MX9_maximal [.ref v2, .int (gi σ5 v0 j9)] σ5 (fun r12 σ11 => hs σ11 v2 = some (7, 27) ∧ CI Γ d MX9_thrown [.ref v2] σ11 (fun r15 σ14 => ((r15 = r6 → ((r6 ≠ 0 → EV Γ ML_law d 2703 [some (.ref v0), some (.ref v1), some (.ref v2), some (.ref v3), some (.ref v4), some (.int v5), none, none, none] [] σ14 Q) ∧ (r6 = 0 → ∃ n20 : Nat, hs σ14 v3 = some (23, n20) ∧ ∃ j21 : Nat, IX 0 n20 j21 ∧ (((lg_cmp (gj σ14 v3 j21) (Int32.toInt64 r12)) = 0 → EV Γ ML_law d 2703 [some (.ref v0), some (.ref v1), some (.ref v2), some (.ref v3), some (.ref v4), some (.int v5), none, none, none] [] σ14 Q) ∧ (¬ (lg_cmp (gj σ14 v3 j21) (Int32.toInt64 r12)) = 0 → Q (.inl (some (.int 0))) σ14))))) ∧ (¬ r15 = r6 → Q (.inl (some (.int 0))) σ14))) (fun E σ14 => Q (.inr E) σ14)) (fun E σ11 => Q (.inr E) σ11)) (fun _ _ => False)) : EV Γ ML_law d 1427 [some (.ref v0), some (.ref v1), some (.ref v2), some (.ref v3), some (.ref v4), some (.int v5), none, none, none] [] σ Q := by
  refine EV.aload_n 1428 rfl 1 rfl rfl dL_law_1427 ?_
  refine EV.aload_n 1429 rfl 0 rfl rfl dL_law_1428 ?_
  refine EV.iload 1431 rfl rfl dL_law_1429 ?_
  refine EV.iconst 1432 rfl dL_law_1431 (v := 1) (by decide) ?_
  refine EV.iadd 1433 rfl dL_law_1432 ?_
  obtain ⟨n2, w1, h⟩ := h
  obtain ⟨j3, x4, h⟩ := h
  refine EV.ialdS 1434 rfl dL_law_1433 w1 x4 ?_
  refine EV.aload_n 1435 rfl 3 rfl rfl dL_law_1434 ?_
  refine EV.cSW rfl lk_L_216 rfl (vs := [.ref v1, .int (gi σ v0 j3), .ref v3]) (st := []) rfl rfl (Nat.le_of_ble_eq_true rfl) dL_law_1435 h (fun v σ5 h => ?_)
  obtain ⟨r6, rfl, h⟩ := h
  show EV Γ ML_law d 1438 [some (.ref v0), some (.ref v1), some (.ref v2), some (.ref v3), some (.ref v4), some (.int v5), none, none, none] [.int r6] σ5 Q
  refine EV.istore 1440 rfl [some (.ref v0), some (.ref v1), some (.ref v2), some (.ref v3), some (.ref v4), some (.int v5), some (.int r6), none, none] (by decide) rfl dL_law_1438 ?_
  refine EV.aload_n 1441 rfl 2 rfl rfl dL_law_1440 ?_
  refine EV.aload_n 1442 rfl 0 rfl rfl dL_law_1441 ?_
  refine EV.iload 1444 rfl rfl dL_law_1442 ?_
  refine EV.iconst 1445 rfl dL_law_1444 (v := 1) (by decide) ?_
  refine EV.iadd 1446 rfl dL_law_1445 ?_
  obtain ⟨n8, w7, h⟩ := h
  obtain ⟨j9, x10, h⟩ := h
  refine EV.ialdS 1447 rfl dL_law_1446 w7 x10 ?_
  obtain ⟨w13, h⟩ := h
  refine EV.cV rfl rfl lk_L_218 rfl (vs := [.int (gi σ5 v0 j9)]) (st := []) rfl rfl (Nat.le_of_ble_eq_true rfl) dL_law_1447 w13 h (fun v σ11 h => ?_)
  obtain ⟨r12, rfl, h⟩ := h
  show EV Γ ML_law d 1450 [some (.ref v0), some (.ref v1), some (.ref v2), some (.ref v3), some (.ref v4), some (.int v5), some (.int r6), none, none] [.int r12] σ11 Q
  refine EV.istore 1452 rfl [some (.ref v0), some (.ref v1), some (.ref v2), some (.ref v3), some (.ref v4), some (.int v5), some (.int r6), some (.int r12), none] (by decide) rfl dL_law_1450 ?_
  refine EV.aload_n 1453 rfl 2 rfl rfl dL_law_1452 ?_
  obtain ⟨w16, h⟩ := h
  refine EV.cV rfl rfl lk_L_147 rfl (vs := []) (st := []) rfl rfl (Nat.le_of_ble_eq_true rfl) dL_law_1453 w16 h (fun v σ14 h => ?_)
  obtain ⟨r15, rfl, h⟩ := h
  show EV Γ ML_law d 1456 [some (.ref v0), some (.ref v1), some (.ref v2), some (.ref v3), some (.ref v4), some (.int v5), some (.int r6), some (.int r12), none] [.int r15] σ14 Q
  refine EV.iload 1458 rfl rfl dL_law_1456 ?_
  refine EV.icmp_eq 1461 1463 rfl (by decide) dL_law_1458 (fun c17 => ?_) (fun c17 => ?_)
  · have h := h.1 c17
    refine EV.iload 1465 rfl rfl dL_law_1463 ?_
    refine EV.if_ne 1468 1480 rfl (by decide) dL_law_1465 (fun c18 => ?_) (fun c18 => ?_)
    · have h := h.1 c18
      refine EV.goto 2703 (by decide) dL_law_1480 ?_
      refine EV.mask [true, true, true, true, true, true, false, false, false] (L' := [some (.ref v0), some (.ref v1), some (.ref v2), some (.ref v3), some (.ref v4), some (.int v5), none, none, none]) rfl ?_
      exact h
    · have h := h.2 c18
      refine EV.aload_n 1469 rfl 3 rfl rfl dL_law_1468 ?_
      refine EV.iconst 1470 rfl dL_law_1469 (v := 0) (by decide) ?_
      obtain ⟨n20, w19, h⟩ := h
      obtain ⟨j21, x22, h⟩ := h
      refine EV.lald 1471 rfl dL_law_1470 w19 x22 ?_
      refine EV.iload 1473 rfl rfl dL_law_1471 ?_
      refine EV.i2l 1474 rfl dL_law_1473 ?_
      refine EV.lcmp 1475 rfl dL_law_1474 ?_
      refine EV.if_eq 1478 1480 rfl (by decide) dL_law_1475 (fun c23 => ?_) (fun c23 => ?_)
      · have h := h.1 c23
        refine EV.goto 2703 (by decide) dL_law_1480 ?_
        refine EV.mask [true, true, true, true, true, true, false, false, false] (L' := [some (.ref v0), some (.ref v1), some (.ref v2), some (.ref v3), some (.ref v4), some (.int v5), none, none, none]) rfl ?_
        exact h
      · have h := h.2 c23
        refine EV.iconst 1479 rfl dL_law_1478 (v := 0) (by decide) ?_
        exact EV.zret rfl rfl dL_law_1479 h
  · have h := h.2 c17
    refine EV.iconst 1462 rfl dL_law_1461 (v := 0) (by decide) ?_
    exact EV.zret rfl rfl dL_law_1462 h
theorem gL_law_1483 {Γ : Gm} {d : Nat} {σ : AH} {Q : Oc → AH → Prop} {v0 : Nat} {v1 : Nat} {v2 : Nat} {v3 : Nat} {v4 : Nat} {v5 : Int32} (h : ∃ n2 : Nat, hs σ v0 = some (28, n2) ∧ ∃ j3 : Nat, IX (v5 + 1) n2 j3 ∧ CI Γ d ML_minimal [.ref v1, .int (gi σ v0 j3), .ref v3] σ (fun r6 σ5 => ∃ n8 : Nat, hs σ5 v0 = some (28, n8) ∧ ∃ j9 : Nat, IX (v5 + 1) n8 j9 ∧ hs σ5 v2 = some (7, 27) ∧ CI Γ d MX9_minimal [.ref v2, .int (gi σ5 v0 j9)] σ5 (fun r12 σ11 => hs σ11 v2 = some (7, 27) ∧ CI Γ d MX9_thrown [.ref v2] σ11 (fun r15 σ14 => ((r15 = r6 → ((r6 ≠ 0 → EV Γ ML_law d 2703 [some (.ref v0), some (.ref v1), some (.ref v2), some (.ref v3), some (.ref v4), some (.int v5), none, none, none] [] σ14 Q) ∧ (r6 = 0 → ∃ n20 : Nat, hs σ14 v3 = some (23, n20) ∧ ∃ j21 : Nat, IX 0 n20 j21 ∧ (((lg_cmp (gj σ14 v3 j21) (Int32.toInt64 r12)) = 0 → EV Γ ML_law d 2703 [some (.ref v0), some (.ref v1), some (.ref v2), some (.ref v3), some (.ref v4), some (.int v5), none, none, none] [] σ14 Q) ∧ (¬ (lg_cmp (gj σ14 v3 j21) (Int32.toInt64 r12)) = 0 → Q (.inl (some (.int 0))) σ14))))) ∧ (¬ r15 = r6 → Q (.inl (some (.int 0))) σ14))) (fun E σ14 => Q (.inr E) σ14)) (fun E σ11 => Q (.inr E) σ11)) (fun _ _ => False)) : EV Γ ML_law d 1483 [some (.ref v0), some (.ref v1), some (.ref v2), some (.ref v3), some (.ref v4), some (.int v5), none, none, none] [] σ Q := by
  refine EV.aload_n 1484 rfl 1 rfl rfl dL_law_1483 ?_
  refine EV.aload_n 1485 rfl 0 rfl rfl dL_law_1484 ?_
  refine EV.iload 1487 rfl rfl dL_law_1485 ?_
  refine EV.iconst 1488 rfl dL_law_1487 (v := 1) (by decide) ?_
  refine EV.iadd 1489 rfl dL_law_1488 ?_
  obtain ⟨n2, w1, h⟩ := h
  obtain ⟨j3, x4, h⟩ := h
  refine EV.ialdS 1490 rfl dL_law_1489 w1 x4 ?_
  refine EV.aload_n 1491 rfl 3 rfl rfl dL_law_1490 ?_
  refine EV.cSW rfl lk_L_219 rfl (vs := [.ref v1, .int (gi σ v0 j3), .ref v3]) (st := []) rfl rfl (Nat.le_of_ble_eq_true rfl) dL_law_1491 h (fun v σ5 h => ?_)
  obtain ⟨r6, rfl, h⟩ := h
  show EV Γ ML_law d 1494 [some (.ref v0), some (.ref v1), some (.ref v2), some (.ref v3), some (.ref v4), some (.int v5), none, none, none] [.int r6] σ5 Q
  refine EV.istore 1496 rfl [some (.ref v0), some (.ref v1), some (.ref v2), some (.ref v3), some (.ref v4), some (.int v5), some (.int r6), none, none] (by decide) rfl dL_law_1494 ?_
  refine EV.aload_n 1497 rfl 2 rfl rfl dL_law_1496 ?_
  refine EV.aload_n 1498 rfl 0 rfl rfl dL_law_1497 ?_
  refine EV.iload 1500 rfl rfl dL_law_1498 ?_
  refine EV.iconst 1501 rfl dL_law_1500 (v := 1) (by decide) ?_
  refine EV.iadd 1502 rfl dL_law_1501 ?_
  obtain ⟨n8, w7, h⟩ := h
  obtain ⟨j9, x10, h⟩ := h
  refine EV.ialdS 1503 rfl dL_law_1502 w7 x10 ?_
  obtain ⟨w13, h⟩ := h
  refine EV.cV rfl rfl lk_L_221 rfl (vs := [.int (gi σ5 v0 j9)]) (st := []) rfl rfl (Nat.le_of_ble_eq_true rfl) dL_law_1503 w13 h (fun v σ11 h => ?_)
  obtain ⟨r12, rfl, h⟩ := h
  show EV Γ ML_law d 1506 [some (.ref v0), some (.ref v1), some (.ref v2), some (.ref v3), some (.ref v4), some (.int v5), some (.int r6), none, none] [.int r12] σ11 Q
  refine EV.istore 1508 rfl [some (.ref v0), some (.ref v1), some (.ref v2), some (.ref v3), some (.ref v4), some (.int v5), some (.int r6), some (.int r12), none] (by decide) rfl dL_law_1506 ?_
  refine EV.aload_n 1509 rfl 2 rfl rfl dL_law_1508 ?_
  obtain ⟨w16, h⟩ := h
  refine EV.cV rfl rfl lk_L_147 rfl (vs := []) (st := []) rfl rfl (Nat.le_of_ble_eq_true rfl) dL_law_1509 w16 h (fun v σ14 h => ?_)
  obtain ⟨r15, rfl, h⟩ := h
  show EV Γ ML_law d 1512 [some (.ref v0), some (.ref v1), some (.ref v2), some (.ref v3), some (.ref v4), some (.int v5), some (.int r6), some (.int r12), none] [.int r15] σ14 Q
  refine EV.iload 1514 rfl rfl dL_law_1512 ?_
  refine EV.icmp_eq 1517 1519 rfl (by decide) dL_law_1514 (fun c17 => ?_) (fun c17 => ?_)
  · have h := h.1 c17
    refine EV.iload 1521 rfl rfl dL_law_1519 ?_
    refine EV.if_ne 1524 1536 rfl (by decide) dL_law_1521 (fun c18 => ?_) (fun c18 => ?_)
    · have h := h.1 c18
      refine EV.goto 2703 (by decide) dL_law_1536 ?_
      refine EV.mask [true, true, true, true, true, true, false, false, false] (L' := [some (.ref v0), some (.ref v1), some (.ref v2), some (.ref v3), some (.ref v4), some (.int v5), none, none, none]) rfl ?_
      exact h
    · have h := h.2 c18
      refine EV.aload_n 1525 rfl 3 rfl rfl dL_law_1524 ?_
      refine EV.iconst 1526 rfl dL_law_1525 (v := 0) (by decide) ?_
      obtain ⟨n20, w19, h⟩ := h
      obtain ⟨j21, x22, h⟩ := h
      refine EV.lald 1527 rfl dL_law_1526 w19 x22 ?_
      refine EV.iload 1529 rfl rfl dL_law_1527 ?_
      refine EV.i2l 1530 rfl dL_law_1529 ?_
      refine EV.lcmp 1531 rfl dL_law_1530 ?_
      refine EV.if_eq 1534 1536 rfl (by decide) dL_law_1531 (fun c23 => ?_) (fun c23 => ?_)
      · have h := h.1 c23
        refine EV.goto 2703 (by decide) dL_law_1536 ?_
        refine EV.mask [true, true, true, true, true, true, false, false, false] (L' := [some (.ref v0), some (.ref v1), some (.ref v2), some (.ref v3), some (.ref v4), some (.int v5), none, none, none]) rfl ?_
        exact h
      · have h := h.2 c23
        refine EV.iconst 1535 rfl dL_law_1534 (v := 0) (by decide) ?_
        exact EV.zret rfl rfl dL_law_1535 h
  · have h := h.2 c17
    refine EV.iconst 1518 rfl dL_law_1517 (v := 0) (by decide) ?_
    exact EV.zret rfl rfl dL_law_1518 h
theorem gL_law_1539 {Γ : Gm} {d : Nat} {σ : AH} {Q : Oc → AH → Prop} {v0 : Nat} {v1 : Nat} {v2 : Nat} {v3 : Nat} {v4 : Nat} {v5 : Int32} (h : ∃ n2 : Nat, hs σ v0 = some (28, n2) ∧ ∃ j3 : Nat, IX (v5 + 1) n2 j3 ∧ CI Γ d ML_hitting [.ref v1, .int (gi σ v0 j3), .ref v3] σ (fun r6 σ5 => ∃ n8 : Nat, hs σ5 v0 = some (28, n8) ∧ ∃ j9 : Nat, IX (v5 + 1) n8 j9 ∧ hs σ5 v2 = some (7, 27) ∧ CI Γ d MX9_hitting [.ref v2, .int (gi σ5 v0 j9)] σ5 (fun r12 σ11 => hs σ11 v2 = some (7, 27) ∧ CI Γ d MX9_thrown [.ref v2] σ11 (fun r15 σ14 => ((r15 = r6 → ((r6 ≠ 0 → EV Γ ML_law d 2703 [some (.ref v0), some (.ref v1), some (.ref v2), some (.ref v3), some (.ref v4), some (.int v5), none, none, none] [] σ14 Q) ∧ (r6 = 0 → ∃ n20 : Nat, hs σ14 v3 = some (23, n20) ∧ ∃ j21 : Nat, IX 0 n20 j21 ∧ (((lg_cmp (gj σ14 v3 j21) (Int32.toInt64 r12)) = 0 → EV Γ ML_law d 2703 [some (.ref v0), some (.ref v1), some (.ref v2), some (.ref v3), some (.ref v4), some (.int v5), none, none, none] [] σ14 Q) ∧ (¬ (lg_cmp (gj σ14 v3 j21) (Int32.toInt64 r12)) = 0 → Q (.inl (some (.int 0))) σ14))))) ∧ (¬ r15 = r6 → Q (.inl (some (.int 0))) σ14))) (fun E σ14 => Q (.inr E) σ14)) (fun E σ11 => Q (.inr E) σ11)) (fun _ _ => False)) : EV Γ ML_law d 1539 [some (.ref v0), some (.ref v1), some (.ref v2), some (.ref v3), some (.ref v4), some (.int v5), none, none, none] [] σ Q := by
  refine EV.aload_n 1540 rfl 1 rfl rfl dL_law_1539 ?_
  refine EV.aload_n 1541 rfl 0 rfl rfl dL_law_1540 ?_
  refine EV.iload 1543 rfl rfl dL_law_1541 ?_
  refine EV.iconst 1544 rfl dL_law_1543 (v := 1) (by decide) ?_
  refine EV.iadd 1545 rfl dL_law_1544 ?_
  obtain ⟨n2, w1, h⟩ := h
  obtain ⟨j3, x4, h⟩ := h
  refine EV.ialdS 1546 rfl dL_law_1545 w1 x4 ?_
  refine EV.aload_n 1547 rfl 3 rfl rfl dL_law_1546 ?_
  refine EV.cSW rfl lk_L_222 rfl (vs := [.ref v1, .int (gi σ v0 j3), .ref v3]) (st := []) rfl rfl (Nat.le_of_ble_eq_true rfl) dL_law_1547 h (fun v σ5 h => ?_)
  obtain ⟨r6, rfl, h⟩ := h
  show EV Γ ML_law d 1550 [some (.ref v0), some (.ref v1), some (.ref v2), some (.ref v3), some (.ref v4), some (.int v5), none, none, none] [.int r6] σ5 Q
  refine EV.istore 1552 rfl [some (.ref v0), some (.ref v1), some (.ref v2), some (.ref v3), some (.ref v4), some (.int v5), some (.int r6), none, none] (by decide) rfl dL_law_1550 ?_
  refine EV.aload_n 1553 rfl 2 rfl rfl dL_law_1552 ?_
  refine EV.aload_n 1554 rfl 0 rfl rfl dL_law_1553 ?_
  refine EV.iload 1556 rfl rfl dL_law_1554 ?_
  refine EV.iconst 1557 rfl dL_law_1556 (v := 1) (by decide) ?_
  refine EV.iadd 1558 rfl dL_law_1557 ?_
  obtain ⟨n8, w7, h⟩ := h
  obtain ⟨j9, x10, h⟩ := h
  refine EV.ialdS 1559 rfl dL_law_1558 w7 x10 ?_
  obtain ⟨w13, h⟩ := h
  refine EV.cV rfl rfl lk_L_224 rfl (vs := [.int (gi σ5 v0 j9)]) (st := []) rfl rfl (Nat.le_of_ble_eq_true rfl) dL_law_1559 w13 h (fun v σ11 h => ?_)
  obtain ⟨r12, rfl, h⟩ := h
  show EV Γ ML_law d 1562 [some (.ref v0), some (.ref v1), some (.ref v2), some (.ref v3), some (.ref v4), some (.int v5), some (.int r6), none, none] [.int r12] σ11 Q
  refine EV.istore 1564 rfl [some (.ref v0), some (.ref v1), some (.ref v2), some (.ref v3), some (.ref v4), some (.int v5), some (.int r6), some (.int r12), none] (by decide) rfl dL_law_1562 ?_
  refine EV.aload_n 1565 rfl 2 rfl rfl dL_law_1564 ?_
  obtain ⟨w16, h⟩ := h
  refine EV.cV rfl rfl lk_L_147 rfl (vs := []) (st := []) rfl rfl (Nat.le_of_ble_eq_true rfl) dL_law_1565 w16 h (fun v σ14 h => ?_)
  obtain ⟨r15, rfl, h⟩ := h
  show EV Γ ML_law d 1568 [some (.ref v0), some (.ref v1), some (.ref v2), some (.ref v3), some (.ref v4), some (.int v5), some (.int r6), some (.int r12), none] [.int r15] σ14 Q
  refine EV.iload 1570 rfl rfl dL_law_1568 ?_
  refine EV.icmp_eq 1573 1575 rfl (by decide) dL_law_1570 (fun c17 => ?_) (fun c17 => ?_)
  · have h := h.1 c17
    refine EV.iload 1577 rfl rfl dL_law_1575 ?_
    refine EV.if_ne 1580 1592 rfl (by decide) dL_law_1577 (fun c18 => ?_) (fun c18 => ?_)
    · have h := h.1 c18
      refine EV.goto 2703 (by decide) dL_law_1592 ?_
      refine EV.mask [true, true, true, true, true, true, false, false, false] (L' := [some (.ref v0), some (.ref v1), some (.ref v2), some (.ref v3), some (.ref v4), some (.int v5), none, none, none]) rfl ?_
      exact h
    · have h := h.2 c18
      refine EV.aload_n 1581 rfl 3 rfl rfl dL_law_1580 ?_
      refine EV.iconst 1582 rfl dL_law_1581 (v := 0) (by decide) ?_
      obtain ⟨n20, w19, h⟩ := h
      obtain ⟨j21, x22, h⟩ := h
      refine EV.lald 1583 rfl dL_law_1582 w19 x22 ?_
      refine EV.iload 1585 rfl rfl dL_law_1583 ?_
      refine EV.i2l 1586 rfl dL_law_1585 ?_
      refine EV.lcmp 1587 rfl dL_law_1586 ?_
      refine EV.if_eq 1590 1592 rfl (by decide) dL_law_1587 (fun c23 => ?_) (fun c23 => ?_)
      · have h := h.1 c23
        refine EV.goto 2703 (by decide) dL_law_1592 ?_
        refine EV.mask [true, true, true, true, true, true, false, false, false] (L' := [some (.ref v0), some (.ref v1), some (.ref v2), some (.ref v3), some (.ref v4), some (.int v5), none, none, none]) rfl ?_
        exact h
      · have h := h.2 c23
        refine EV.iconst 1591 rfl dL_law_1590 (v := 0) (by decide) ?_
        exact EV.zret rfl rfl dL_law_1591 h
  · have h := h.2 c17
    refine EV.iconst 1574 rfl dL_law_1573 (v := 0) (by decide) ?_
    exact EV.zret rfl rfl dL_law_1574 h
theorem gL_law_1595 {Γ : Gm} {d : Nat} {σ : AH} {Q : Oc → AH → Prop} {v0 : Nat} {v1 : Nat} {v2 : Nat} {v3 : Nat} {v4 : Nat} {v5 : Int32} (h : ∃ n2 : Nat, hs σ v0 = some (28, n2) ∧ ∃ j3 : Nat, IX (v5 + 1) n2 j3 ∧ CI Γ d ML_closure [.ref v1, .int (gi σ v0 j3), .ref v3] σ (fun r6 σ5 => ∃ n8 : Nat, hs σ5 v0 = some (28, n8) ∧ ∃ j9 : Nat, IX (v5 + 1) n8 j9 ∧ hs σ5 v2 = some (7, 27) ∧ CI Γ d MX9_closure [.ref v2, .int (gi σ5 v0 j9)] σ5 (fun r12 σ11 => hs σ11 v2 = some (7, 27) ∧ CI Γ d MX9_thrown [.ref v2] σ11 (fun r15 σ14 => ((r15 = r6 → ((r6 ≠ 0 → EV Γ ML_law d 2703 [some (.ref v0), some (.ref v1), some (.ref v2), some (.ref v3), some (.ref v4), some (.int v5), none, none, none] [] σ14 Q) ∧ (r6 = 0 → ∃ n20 : Nat, hs σ14 v3 = some (23, n20) ∧ ∃ j21 : Nat, IX 0 n20 j21 ∧ (((lg_cmp (gj σ14 v3 j21) (Int32.toInt64 r12)) = 0 → EV Γ ML_law d 2703 [some (.ref v0), some (.ref v1), some (.ref v2), some (.ref v3), some (.ref v4), some (.int v5), none, none, none] [] σ14 Q) ∧ (¬ (lg_cmp (gj σ14 v3 j21) (Int32.toInt64 r12)) = 0 → Q (.inl (some (.int 0))) σ14))))) ∧ (¬ r15 = r6 → Q (.inl (some (.int 0))) σ14))) (fun E σ14 => Q (.inr E) σ14)) (fun E σ11 => Q (.inr E) σ11)) (fun _ _ => False)) : EV Γ ML_law d 1595 [some (.ref v0), some (.ref v1), some (.ref v2), some (.ref v3), some (.ref v4), some (.int v5), none, none, none] [] σ Q := by
  refine EV.aload_n 1596 rfl 1 rfl rfl dL_law_1595 ?_
  refine EV.aload_n 1597 rfl 0 rfl rfl dL_law_1596 ?_
  refine EV.iload 1599 rfl rfl dL_law_1597 ?_
  refine EV.iconst 1600 rfl dL_law_1599 (v := 1) (by decide) ?_
  refine EV.iadd 1601 rfl dL_law_1600 ?_
  obtain ⟨n2, w1, h⟩ := h
  obtain ⟨j3, x4, h⟩ := h
  refine EV.ialdS 1602 rfl dL_law_1601 w1 x4 ?_
  refine EV.aload_n 1603 rfl 3 rfl rfl dL_law_1602 ?_
  refine EV.cSW rfl lk_L_225 rfl (vs := [.ref v1, .int (gi σ v0 j3), .ref v3]) (st := []) rfl rfl (Nat.le_of_ble_eq_true rfl) dL_law_1603 h (fun v σ5 h => ?_)
  obtain ⟨r6, rfl, h⟩ := h
  show EV Γ ML_law d 1606 [some (.ref v0), some (.ref v1), some (.ref v2), some (.ref v3), some (.ref v4), some (.int v5), none, none, none] [.int r6] σ5 Q
  refine EV.istore 1608 rfl [some (.ref v0), some (.ref v1), some (.ref v2), some (.ref v3), some (.ref v4), some (.int v5), some (.int r6), none, none] (by decide) rfl dL_law_1606 ?_
  refine EV.aload_n 1609 rfl 2 rfl rfl dL_law_1608 ?_
  refine EV.aload_n 1610 rfl 0 rfl rfl dL_law_1609 ?_
  refine EV.iload 1612 rfl rfl dL_law_1610 ?_
  refine EV.iconst 1613 rfl dL_law_1612 (v := 1) (by decide) ?_
  refine EV.iadd 1614 rfl dL_law_1613 ?_
  obtain ⟨n8, w7, h⟩ := h
  obtain ⟨j9, x10, h⟩ := h
  refine EV.ialdS 1615 rfl dL_law_1614 w7 x10 ?_
  obtain ⟨w13, h⟩ := h
  refine EV.cV rfl rfl lk_L_227 rfl (vs := [.int (gi σ5 v0 j9)]) (st := []) rfl rfl (Nat.le_of_ble_eq_true rfl) dL_law_1615 w13 h (fun v σ11 h => ?_)
  obtain ⟨r12, rfl, h⟩ := h
  show EV Γ ML_law d 1618 [some (.ref v0), some (.ref v1), some (.ref v2), some (.ref v3), some (.ref v4), some (.int v5), some (.int r6), none, none] [.int r12] σ11 Q
  refine EV.istore 1620 rfl [some (.ref v0), some (.ref v1), some (.ref v2), some (.ref v3), some (.ref v4), some (.int v5), some (.int r6), some (.int r12), none] (by decide) rfl dL_law_1618 ?_
  refine EV.aload_n 1621 rfl 2 rfl rfl dL_law_1620 ?_
  obtain ⟨w16, h⟩ := h
  refine EV.cV rfl rfl lk_L_147 rfl (vs := []) (st := []) rfl rfl (Nat.le_of_ble_eq_true rfl) dL_law_1621 w16 h (fun v σ14 h => ?_)
  obtain ⟨r15, rfl, h⟩ := h
  show EV Γ ML_law d 1624 [some (.ref v0), some (.ref v1), some (.ref v2), some (.ref v3), some (.ref v4), some (.int v5), some (.int r6), some (.int r12), none] [.int r15] σ14 Q
  refine EV.iload 1626 rfl rfl dL_law_1624 ?_
  refine EV.icmp_eq 1629 1631 rfl (by decide) dL_law_1626 (fun c17 => ?_) (fun c17 => ?_)
  · have h := h.1 c17
    refine EV.iload 1633 rfl rfl dL_law_1631 ?_
    refine EV.if_ne 1636 1648 rfl (by decide) dL_law_1633 (fun c18 => ?_) (fun c18 => ?_)
    · have h := h.1 c18
      refine EV.goto 2703 (by decide) dL_law_1648 ?_
      refine EV.mask [true, true, true, true, true, true, false, false, false] (L' := [some (.ref v0), some (.ref v1), some (.ref v2), some (.ref v3), some (.ref v4), some (.int v5), none, none, none]) rfl ?_
      exact h
    · have h := h.2 c18
      refine EV.aload_n 1637 rfl 3 rfl rfl dL_law_1636 ?_
      refine EV.iconst 1638 rfl dL_law_1637 (v := 0) (by decide) ?_
      obtain ⟨n20, w19, h⟩ := h
      obtain ⟨j21, x22, h⟩ := h
      refine EV.lald 1639 rfl dL_law_1638 w19 x22 ?_
      refine EV.iload 1641 rfl rfl dL_law_1639 ?_
      refine EV.i2l 1642 rfl dL_law_1641 ?_
      refine EV.lcmp 1643 rfl dL_law_1642 ?_
      refine EV.if_eq 1646 1648 rfl (by decide) dL_law_1643 (fun c23 => ?_) (fun c23 => ?_)
      · have h := h.1 c23
        refine EV.goto 2703 (by decide) dL_law_1648 ?_
        refine EV.mask [true, true, true, true, true, true, false, false, false] (L' := [some (.ref v0), some (.ref v1), some (.ref v2), some (.ref v3), some (.ref v4), some (.int v5), none, none, none]) rfl ?_
        exact h
      · have h := h.2 c23
        refine EV.iconst 1647 rfl dL_law_1646 (v := 0) (by decide) ?_
        exact EV.zret rfl rfl dL_law_1647 h
  · have h := h.2 c17
    refine EV.iconst 1630 rfl dL_law_1629 (v := 0) (by decide) ?_
    exact EV.zret rfl rfl dL_law_1630 h
theorem gL_law_1651 {Γ : Gm} {d : Nat} {σ : AH} {Q : Oc → AH → Prop} {v0 : Nat} {v1 : Nat} {v2 : Nat} {v3 : Nat} {v4 : Nat} {v5 : Int32} (h : ∃ n2 : Nat, hs σ v0 = some (28, n2) ∧ ∃ j3 : Nat, IX (v5 + 1) n2 j3 ∧ ∃ j5 : Nat, IX (v5 + 2) n2 j5 ∧ CI Γ d ML_change [.ref v1, .int (gi σ v0 j3), .int (gi σ v0 j5), .ref v3] σ (fun r8 σ7 => ∃ n10 : Nat, hs σ7 v0 = some (28, n10) ∧ ∃ j11 : Nat, IX (v5 + 1) n10 j11 ∧ ∃ j13 : Nat, IX (v5 + 2) n10 j13 ∧ hs σ7 v2 = some (7, 27) ∧ CI Γ d MX9_change [.ref v2, .int (gi σ7 v0 j11), .int (gi σ7 v0 j13)] σ7 (fun r16 σ15 => hs σ15 v2 = some (7, 27) ∧ CI Γ d MX9_thrown [.ref v2] σ15 (fun r19 σ18 => ((r19 = r8 → ((r8 ≠ 0 → EV Γ ML_law d 2703 [some (.ref v0), some (.ref v1), some (.ref v2), some (.ref v3), some (.ref v4), some (.int v5), none, none, none] [] σ18 Q) ∧ (r8 = 0 → ∃ n24 : Nat, hs σ18 v3 = some (23, n24) ∧ ∃ j25 : Nat, IX 0 n24 j25 ∧ (((lg_cmp (gj σ18 v3 j25) (Int32.toInt64 r16)) = 0 → EV Γ ML_law d 2703 [some (.ref v0), some (.ref v1), some (.ref v2), some (.ref v3), some (.ref v4), some (.int v5), none, none, none] [] σ18 Q) ∧ (¬ (lg_cmp (gj σ18 v3 j25) (Int32.toInt64 r16)) = 0 → Q (.inl (some (.int 0))) σ18))))) ∧ (¬ r19 = r8 → Q (.inl (some (.int 0))) σ18))) (fun E σ18 => Q (.inr E) σ18)) (fun E σ15 => Q (.inr E) σ15)) (fun _ _ => False)) : EV Γ ML_law d 1651 [some (.ref v0), some (.ref v1), some (.ref v2), some (.ref v3), some (.ref v4), some (.int v5), none, none, none] [] σ Q := by
  refine EV.aload_n 1652 rfl 1 rfl rfl dL_law_1651 ?_
  refine EV.aload_n 1653 rfl 0 rfl rfl dL_law_1652 ?_
  refine EV.iload 1655 rfl rfl dL_law_1653 ?_
  refine EV.iconst 1656 rfl dL_law_1655 (v := 1) (by decide) ?_
  refine EV.iadd 1657 rfl dL_law_1656 ?_
  obtain ⟨n2, w1, h⟩ := h
  obtain ⟨j3, x4, h⟩ := h
  refine EV.ialdS 1658 rfl dL_law_1657 w1 x4 ?_
  refine EV.aload_n 1659 rfl 0 rfl rfl dL_law_1658 ?_
  refine EV.iload 1661 rfl rfl dL_law_1659 ?_
  refine EV.iconst 1662 rfl dL_law_1661 (v := 2) (by decide) ?_
  refine EV.iadd 1663 rfl dL_law_1662 ?_
  obtain ⟨j5, x6, h⟩ := h
  refine EV.ialdS 1664 rfl dL_law_1663 w1 x6 ?_
  refine EV.aload_n 1665 rfl 3 rfl rfl dL_law_1664 ?_
  refine EV.cSW rfl lk_L_228 rfl (vs := [.ref v1, .int (gi σ v0 j3), .int (gi σ v0 j5), .ref v3]) (st := []) rfl rfl (Nat.le_of_ble_eq_true rfl) dL_law_1665 h (fun v σ7 h => ?_)
  obtain ⟨r8, rfl, h⟩ := h
  show EV Γ ML_law d 1668 [some (.ref v0), some (.ref v1), some (.ref v2), some (.ref v3), some (.ref v4), some (.int v5), none, none, none] [.int r8] σ7 Q
  refine EV.istore 1670 rfl [some (.ref v0), some (.ref v1), some (.ref v2), some (.ref v3), some (.ref v4), some (.int v5), some (.int r8), none, none] (by decide) rfl dL_law_1668 ?_
  refine EV.aload_n 1671 rfl 2 rfl rfl dL_law_1670 ?_
  refine EV.aload_n 1672 rfl 0 rfl rfl dL_law_1671 ?_
  refine EV.iload 1674 rfl rfl dL_law_1672 ?_
  refine EV.iconst 1675 rfl dL_law_1674 (v := 1) (by decide) ?_
  refine EV.iadd 1676 rfl dL_law_1675 ?_
  obtain ⟨n10, w9, h⟩ := h
  obtain ⟨j11, x12, h⟩ := h
  refine EV.ialdS 1677 rfl dL_law_1676 w9 x12 ?_
  refine EV.aload_n 1678 rfl 0 rfl rfl dL_law_1677 ?_
  refine EV.iload 1680 rfl rfl dL_law_1678 ?_
  refine EV.iconst 1681 rfl dL_law_1680 (v := 2) (by decide) ?_
  refine EV.iadd 1682 rfl dL_law_1681 ?_
  obtain ⟨j13, x14, h⟩ := h
  refine EV.ialdS 1683 rfl dL_law_1682 w9 x14 ?_
  obtain ⟨w17, h⟩ := h
  refine EV.cV rfl rfl lk_L_230 rfl (vs := [.int (gi σ7 v0 j11), .int (gi σ7 v0 j13)]) (st := []) rfl rfl (Nat.le_of_ble_eq_true rfl) dL_law_1683 w17 h (fun v σ15 h => ?_)
  obtain ⟨r16, rfl, h⟩ := h
  show EV Γ ML_law d 1686 [some (.ref v0), some (.ref v1), some (.ref v2), some (.ref v3), some (.ref v4), some (.int v5), some (.int r8), none, none] [.int r16] σ15 Q
  refine EV.istore 1688 rfl [some (.ref v0), some (.ref v1), some (.ref v2), some (.ref v3), some (.ref v4), some (.int v5), some (.int r8), some (.int r16), none] (by decide) rfl dL_law_1686 ?_
  refine EV.aload_n 1689 rfl 2 rfl rfl dL_law_1688 ?_
  obtain ⟨w20, h⟩ := h
  refine EV.cV rfl rfl lk_L_147 rfl (vs := []) (st := []) rfl rfl (Nat.le_of_ble_eq_true rfl) dL_law_1689 w20 h (fun v σ18 h => ?_)
  obtain ⟨r19, rfl, h⟩ := h
  show EV Γ ML_law d 1692 [some (.ref v0), some (.ref v1), some (.ref v2), some (.ref v3), some (.ref v4), some (.int v5), some (.int r8), some (.int r16), none] [.int r19] σ18 Q
  refine EV.iload 1694 rfl rfl dL_law_1692 ?_
  refine EV.icmp_eq 1697 1699 rfl (by decide) dL_law_1694 (fun c21 => ?_) (fun c21 => ?_)
  · have h := h.1 c21
    refine EV.iload 1701 rfl rfl dL_law_1699 ?_
    refine EV.if_ne 1704 1716 rfl (by decide) dL_law_1701 (fun c22 => ?_) (fun c22 => ?_)
    · have h := h.1 c22
      refine EV.goto 2703 (by decide) dL_law_1716 ?_
      refine EV.mask [true, true, true, true, true, true, false, false, false] (L' := [some (.ref v0), some (.ref v1), some (.ref v2), some (.ref v3), some (.ref v4), some (.int v5), none, none, none]) rfl ?_
      exact h
    · have h := h.2 c22
      refine EV.aload_n 1705 rfl 3 rfl rfl dL_law_1704 ?_
      refine EV.iconst 1706 rfl dL_law_1705 (v := 0) (by decide) ?_
      obtain ⟨n24, w23, h⟩ := h
      obtain ⟨j25, x26, h⟩ := h
      refine EV.lald 1707 rfl dL_law_1706 w23 x26 ?_
      refine EV.iload 1709 rfl rfl dL_law_1707 ?_
      refine EV.i2l 1710 rfl dL_law_1709 ?_
      refine EV.lcmp 1711 rfl dL_law_1710 ?_
      refine EV.if_eq 1714 1716 rfl (by decide) dL_law_1711 (fun c27 => ?_) (fun c27 => ?_)
      · have h := h.1 c27
        refine EV.goto 2703 (by decide) dL_law_1716 ?_
        refine EV.mask [true, true, true, true, true, true, false, false, false] (L' := [some (.ref v0), some (.ref v1), some (.ref v2), some (.ref v3), some (.ref v4), some (.int v5), none, none, none]) rfl ?_
        exact h
      · have h := h.2 c27
        refine EV.iconst 1715 rfl dL_law_1714 (v := 0) (by decide) ?_
        exact EV.zret rfl rfl dL_law_1715 h
  · have h := h.2 c21
    refine EV.iconst 1698 rfl dL_law_1697 (v := 0) (by decide) ?_
    exact EV.zret rfl rfl dL_law_1698 h
theorem gL_law_1719 {Γ : Gm} {d : Nat} {σ : AH} {Q : Oc → AH → Prop} {v0 : Nat} {v1 : Nat} {v2 : Nat} {v3 : Nat} {v4 : Nat} {v5 : Int32} (h : ∃ n2 : Nat, hs σ v0 = some (28, n2) ∧ ∃ j3 : Nat, IX (v5 + 1) n2 j3 ∧ ∃ j5 : Nat, IX (v5 + 2) n2 j5 ∧ ∃ j7 : Nat, IX (v5 + 3) n2 j7 ∧ CI Γ d ML_withCost [.ref v1, .int (gi σ v0 j3), .int (gi σ v0 j5), .int (gi σ v0 j7), .ref v3] σ (fun r10 σ9 => ∃ n12 : Nat, hs σ9 v0 = some (28, n12) ∧ ∃ j13 : Nat, IX (v5 + 1) n12 j13 ∧ ∃ j15 : Nat, IX (v5 + 2) n12 j15 ∧ ∃ j17 : Nat, IX (v5 + 3) n12 j17 ∧ hs σ9 v2 = some (7, 27) ∧ CI Γ d MX9_withCost [.ref v2, .int (gi σ9 v0 j13), .int (gi σ9 v0 j15), .int (gi σ9 v0 j17)] σ9 (fun r20 σ19 => hs σ19 v2 = some (7, 27) ∧ CI Γ d MX9_thrown [.ref v2] σ19 (fun r23 σ22 => ((r23 = r10 → ((r10 ≠ 0 → EV Γ ML_law d 2703 [some (.ref v0), some (.ref v1), some (.ref v2), some (.ref v3), some (.ref v4), some (.int v5), none, none, none] [] σ22 Q) ∧ (r10 = 0 → ∃ n28 : Nat, hs σ22 v3 = some (23, n28) ∧ ∃ j29 : Nat, IX 0 n28 j29 ∧ (((lg_cmp (gj σ22 v3 j29) (Int32.toInt64 r20)) = 0 → EV Γ ML_law d 2703 [some (.ref v0), some (.ref v1), some (.ref v2), some (.ref v3), some (.ref v4), some (.int v5), none, none, none] [] σ22 Q) ∧ (¬ (lg_cmp (gj σ22 v3 j29) (Int32.toInt64 r20)) = 0 → Q (.inl (some (.int 0))) σ22))))) ∧ (¬ r23 = r10 → Q (.inl (some (.int 0))) σ22))) (fun E σ22 => Q (.inr E) σ22)) (fun E σ19 => Q (.inr E) σ19)) (fun _ _ => False)) : EV Γ ML_law d 1719 [some (.ref v0), some (.ref v1), some (.ref v2), some (.ref v3), some (.ref v4), some (.int v5), none, none, none] [] σ Q := by
  refine EV.aload_n 1720 rfl 1 rfl rfl dL_law_1719 ?_
  refine EV.aload_n 1721 rfl 0 rfl rfl dL_law_1720 ?_
  refine EV.iload 1723 rfl rfl dL_law_1721 ?_
  refine EV.iconst 1724 rfl dL_law_1723 (v := 1) (by decide) ?_
  refine EV.iadd 1725 rfl dL_law_1724 ?_
  obtain ⟨n2, w1, h⟩ := h
  obtain ⟨j3, x4, h⟩ := h
  refine EV.ialdS 1726 rfl dL_law_1725 w1 x4 ?_
  refine EV.aload_n 1727 rfl 0 rfl rfl dL_law_1726 ?_
  refine EV.iload 1729 rfl rfl dL_law_1727 ?_
  refine EV.iconst 1730 rfl dL_law_1729 (v := 2) (by decide) ?_
  refine EV.iadd 1731 rfl dL_law_1730 ?_
  obtain ⟨j5, x6, h⟩ := h
  refine EV.ialdS 1732 rfl dL_law_1731 w1 x6 ?_
  refine EV.aload_n 1733 rfl 0 rfl rfl dL_law_1732 ?_
  refine EV.iload 1735 rfl rfl dL_law_1733 ?_
  refine EV.iconst 1736 rfl dL_law_1735 (v := 3) (by decide) ?_
  refine EV.iadd 1737 rfl dL_law_1736 ?_
  obtain ⟨j7, x8, h⟩ := h
  refine EV.ialdS 1738 rfl dL_law_1737 w1 x8 ?_
  refine EV.aload_n 1739 rfl 3 rfl rfl dL_law_1738 ?_
  refine EV.cSW rfl lk_L_231 rfl (vs := [.ref v1, .int (gi σ v0 j3), .int (gi σ v0 j5), .int (gi σ v0 j7), .ref v3]) (st := []) rfl rfl (Nat.le_of_ble_eq_true rfl) dL_law_1739 h (fun v σ9 h => ?_)
  obtain ⟨r10, rfl, h⟩ := h
  show EV Γ ML_law d 1742 [some (.ref v0), some (.ref v1), some (.ref v2), some (.ref v3), some (.ref v4), some (.int v5), none, none, none] [.int r10] σ9 Q
  refine EV.istore 1744 rfl [some (.ref v0), some (.ref v1), some (.ref v2), some (.ref v3), some (.ref v4), some (.int v5), some (.int r10), none, none] (by decide) rfl dL_law_1742 ?_
  refine EV.aload_n 1745 rfl 2 rfl rfl dL_law_1744 ?_
  refine EV.aload_n 1746 rfl 0 rfl rfl dL_law_1745 ?_
  refine EV.iload 1748 rfl rfl dL_law_1746 ?_
  refine EV.iconst 1749 rfl dL_law_1748 (v := 1) (by decide) ?_
  refine EV.iadd 1750 rfl dL_law_1749 ?_
  obtain ⟨n12, w11, h⟩ := h
  obtain ⟨j13, x14, h⟩ := h
  refine EV.ialdS 1751 rfl dL_law_1750 w11 x14 ?_
  refine EV.aload_n 1752 rfl 0 rfl rfl dL_law_1751 ?_
  refine EV.iload 1754 rfl rfl dL_law_1752 ?_
  refine EV.iconst 1755 rfl dL_law_1754 (v := 2) (by decide) ?_
  refine EV.iadd 1756 rfl dL_law_1755 ?_
  obtain ⟨j15, x16, h⟩ := h
  refine EV.ialdS 1757 rfl dL_law_1756 w11 x16 ?_
  refine EV.aload_n 1758 rfl 0 rfl rfl dL_law_1757 ?_
  refine EV.iload 1760 rfl rfl dL_law_1758 ?_
  refine EV.iconst 1761 rfl dL_law_1760 (v := 3) (by decide) ?_
  refine EV.iadd 1762 rfl dL_law_1761 ?_
  obtain ⟨j17, x18, h⟩ := h
  refine EV.ialdS 1763 rfl dL_law_1762 w11 x18 ?_
  obtain ⟨w21, h⟩ := h
  refine EV.cV rfl rfl lk_L_234 rfl (vs := [.int (gi σ9 v0 j13), .int (gi σ9 v0 j15), .int (gi σ9 v0 j17)]) (st := []) rfl rfl (Nat.le_of_ble_eq_true rfl) dL_law_1763 w21 h (fun v σ19 h => ?_)
  obtain ⟨r20, rfl, h⟩ := h
  show EV Γ ML_law d 1766 [some (.ref v0), some (.ref v1), some (.ref v2), some (.ref v3), some (.ref v4), some (.int v5), some (.int r10), none, none] [.int r20] σ19 Q
  refine EV.istore 1768 rfl [some (.ref v0), some (.ref v1), some (.ref v2), some (.ref v3), some (.ref v4), some (.int v5), some (.int r10), some (.int r20), none] (by decide) rfl dL_law_1766 ?_
  refine EV.aload_n 1769 rfl 2 rfl rfl dL_law_1768 ?_
  obtain ⟨w24, h⟩ := h
  refine EV.cV rfl rfl lk_L_147 rfl (vs := []) (st := []) rfl rfl (Nat.le_of_ble_eq_true rfl) dL_law_1769 w24 h (fun v σ22 h => ?_)
  obtain ⟨r23, rfl, h⟩ := h
  show EV Γ ML_law d 1772 [some (.ref v0), some (.ref v1), some (.ref v2), some (.ref v3), some (.ref v4), some (.int v5), some (.int r10), some (.int r20), none] [.int r23] σ22 Q
  refine EV.iload 1774 rfl rfl dL_law_1772 ?_
  refine EV.icmp_eq 1777 1779 rfl (by decide) dL_law_1774 (fun c25 => ?_) (fun c25 => ?_)
  · have h := h.1 c25
    refine EV.iload 1781 rfl rfl dL_law_1779 ?_
    refine EV.if_ne 1784 1796 rfl (by decide) dL_law_1781 (fun c26 => ?_) (fun c26 => ?_)
    · have h := h.1 c26
      refine EV.goto 2703 (by decide) dL_law_1796 ?_
      refine EV.mask [true, true, true, true, true, true, false, false, false] (L' := [some (.ref v0), some (.ref v1), some (.ref v2), some (.ref v3), some (.ref v4), some (.int v5), none, none, none]) rfl ?_
      exact h
    · have h := h.2 c26
      refine EV.aload_n 1785 rfl 3 rfl rfl dL_law_1784 ?_
      refine EV.iconst 1786 rfl dL_law_1785 (v := 0) (by decide) ?_
      obtain ⟨n28, w27, h⟩ := h
      obtain ⟨j29, x30, h⟩ := h
      refine EV.lald 1787 rfl dL_law_1786 w27 x30 ?_
      refine EV.iload 1789 rfl rfl dL_law_1787 ?_
      refine EV.i2l 1790 rfl dL_law_1789 ?_
      refine EV.lcmp 1791 rfl dL_law_1790 ?_
      refine EV.if_eq 1794 1796 rfl (by decide) dL_law_1791 (fun c31 => ?_) (fun c31 => ?_)
      · have h := h.1 c31
        refine EV.goto 2703 (by decide) dL_law_1796 ?_
        refine EV.mask [true, true, true, true, true, true, false, false, false] (L' := [some (.ref v0), some (.ref v1), some (.ref v2), some (.ref v3), some (.ref v4), some (.int v5), none, none, none]) rfl ?_
        exact h
      · have h := h.2 c31
        refine EV.iconst 1795 rfl dL_law_1794 (v := 0) (by decide) ?_
        exact EV.zret rfl rfl dL_law_1795 h
  · have h := h.2 c25
    refine EV.iconst 1778 rfl dL_law_1777 (v := 0) (by decide) ?_
    exact EV.zret rfl rfl dL_law_1778 h
theorem gL_law_1799 {Γ : Gm} {d : Nat} {σ : AH} {Q : Oc → AH → Prop} {v0 : Nat} {v1 : Nat} {v2 : Nat} {v3 : Nat} {v4 : Nat} {v5 : Int32} (h : ∃ n2 : Nat, hs σ v0 = some (28, n2) ∧ ∃ j3 : Nat, IX (v5 + 1) n2 j3 ∧ CI Γ d ML_count [.ref v1, .int (gi σ v0 j3), .ref v3] σ (fun r6 σ5 => ∃ n8 : Nat, hs σ5 v0 = some (28, n8) ∧ ∃ j9 : Nat, IX (v5 + 1) n8 j9 ∧ hs σ5 v2 = some (7, 27) ∧ CI Γ d MX9_count [.ref v2, .int (gi σ5 v0 j9)] σ5 (fun r12 σ11 => hs σ11 v2 = some (7, 27) ∧ CI Γ d MX9_thrown [.ref v2] σ11 (fun r15 σ14 => ((r15 = r6 → ((r6 ≠ 0 → EV Γ ML_law d 2703 [some (.ref v0), some (.ref v1), some (.ref v2), some (.ref v3), some (.ref v4), some (.int v5), none, none, none] [] σ14 Q) ∧ (r6 = 0 → ∃ n20 : Nat, hs σ14 v3 = some (23, n20) ∧ ∃ j21 : Nat, IX 0 n20 j21 ∧ (((lg_cmp (gj σ14 v3 j21) (Int32.toInt64 r12)) = 0 → EV Γ ML_law d 2703 [some (.ref v0), some (.ref v1), some (.ref v2), some (.ref v3), some (.ref v4), some (.int v5), none, none, none] [] σ14 Q) ∧ (¬ (lg_cmp (gj σ14 v3 j21) (Int32.toInt64 r12)) = 0 → Q (.inl (some (.int 0))) σ14))))) ∧ (¬ r15 = r6 → Q (.inl (some (.int 0))) σ14))) (fun E σ14 => Q (.inr E) σ14)) (fun E σ11 => Q (.inr E) σ11)) (fun _ _ => False)) : EV Γ ML_law d 1799 [some (.ref v0), some (.ref v1), some (.ref v2), some (.ref v3), some (.ref v4), some (.int v5), none, none, none] [] σ Q := by
  refine EV.aload_n 1800 rfl 1 rfl rfl dL_law_1799 ?_
  refine EV.aload_n 1801 rfl 0 rfl rfl dL_law_1800 ?_
  refine EV.iload 1803 rfl rfl dL_law_1801 ?_
  refine EV.iconst 1804 rfl dL_law_1803 (v := 1) (by decide) ?_
  refine EV.iadd 1805 rfl dL_law_1804 ?_
  obtain ⟨n2, w1, h⟩ := h
  obtain ⟨j3, x4, h⟩ := h
  refine EV.ialdS 1806 rfl dL_law_1805 w1 x4 ?_
  refine EV.aload_n 1807 rfl 3 rfl rfl dL_law_1806 ?_
  refine EV.cSW rfl lk_L_235 rfl (vs := [.ref v1, .int (gi σ v0 j3), .ref v3]) (st := []) rfl rfl (Nat.le_of_ble_eq_true rfl) dL_law_1807 h (fun v σ5 h => ?_)
  obtain ⟨r6, rfl, h⟩ := h
  show EV Γ ML_law d 1810 [some (.ref v0), some (.ref v1), some (.ref v2), some (.ref v3), some (.ref v4), some (.int v5), none, none, none] [.int r6] σ5 Q
  refine EV.istore 1812 rfl [some (.ref v0), some (.ref v1), some (.ref v2), some (.ref v3), some (.ref v4), some (.int v5), some (.int r6), none, none] (by decide) rfl dL_law_1810 ?_
  refine EV.aload_n 1813 rfl 2 rfl rfl dL_law_1812 ?_
  refine EV.aload_n 1814 rfl 0 rfl rfl dL_law_1813 ?_
  refine EV.iload 1816 rfl rfl dL_law_1814 ?_
  refine EV.iconst 1817 rfl dL_law_1816 (v := 1) (by decide) ?_
  refine EV.iadd 1818 rfl dL_law_1817 ?_
  obtain ⟨n8, w7, h⟩ := h
  obtain ⟨j9, x10, h⟩ := h
  refine EV.ialdS 1819 rfl dL_law_1818 w7 x10 ?_
  obtain ⟨w13, h⟩ := h
  refine EV.cV rfl rfl lk_L_237 rfl (vs := [.int (gi σ5 v0 j9)]) (st := []) rfl rfl (Nat.le_of_ble_eq_true rfl) dL_law_1819 w13 h (fun v σ11 h => ?_)
  obtain ⟨r12, rfl, h⟩ := h
  show EV Γ ML_law d 1822 [some (.ref v0), some (.ref v1), some (.ref v2), some (.ref v3), some (.ref v4), some (.int v5), some (.int r6), none, none] [.int r12] σ11 Q
  refine EV.istore 1824 rfl [some (.ref v0), some (.ref v1), some (.ref v2), some (.ref v3), some (.ref v4), some (.int v5), some (.int r6), some (.int r12), none] (by decide) rfl dL_law_1822 ?_
  refine EV.aload_n 1825 rfl 2 rfl rfl dL_law_1824 ?_
  obtain ⟨w16, h⟩ := h
  refine EV.cV rfl rfl lk_L_147 rfl (vs := []) (st := []) rfl rfl (Nat.le_of_ble_eq_true rfl) dL_law_1825 w16 h (fun v σ14 h => ?_)
  obtain ⟨r15, rfl, h⟩ := h
  show EV Γ ML_law d 1828 [some (.ref v0), some (.ref v1), some (.ref v2), some (.ref v3), some (.ref v4), some (.int v5), some (.int r6), some (.int r12), none] [.int r15] σ14 Q
  refine EV.iload 1830 rfl rfl dL_law_1828 ?_
  refine EV.icmp_eq 1833 1835 rfl (by decide) dL_law_1830 (fun c17 => ?_) (fun c17 => ?_)
  · have h := h.1 c17
    refine EV.iload 1837 rfl rfl dL_law_1835 ?_
    refine EV.if_ne 1840 1852 rfl (by decide) dL_law_1837 (fun c18 => ?_) (fun c18 => ?_)
    · have h := h.1 c18
      refine EV.goto 2703 (by decide) dL_law_1852 ?_
      refine EV.mask [true, true, true, true, true, true, false, false, false] (L' := [some (.ref v0), some (.ref v1), some (.ref v2), some (.ref v3), some (.ref v4), some (.int v5), none, none, none]) rfl ?_
      exact h
    · have h := h.2 c18
      refine EV.aload_n 1841 rfl 3 rfl rfl dL_law_1840 ?_
      refine EV.iconst 1842 rfl dL_law_1841 (v := 0) (by decide) ?_
      obtain ⟨n20, w19, h⟩ := h
      obtain ⟨j21, x22, h⟩ := h
      refine EV.lald 1843 rfl dL_law_1842 w19 x22 ?_
      refine EV.iload 1845 rfl rfl dL_law_1843 ?_
      refine EV.i2l 1846 rfl dL_law_1845 ?_
      refine EV.lcmp 1847 rfl dL_law_1846 ?_
      refine EV.if_eq 1850 1852 rfl (by decide) dL_law_1847 (fun c23 => ?_) (fun c23 => ?_)
      · have h := h.1 c23
        refine EV.goto 2703 (by decide) dL_law_1852 ?_
        refine EV.mask [true, true, true, true, true, true, false, false, false] (L' := [some (.ref v0), some (.ref v1), some (.ref v2), some (.ref v3), some (.ref v4), some (.int v5), none, none, none]) rfl ?_
        exact h
      · have h := h.2 c23
        refine EV.iconst 1851 rfl dL_law_1850 (v := 0) (by decide) ?_
        exact EV.zret rfl rfl dL_law_1851 h
  · have h := h.2 c17
    refine EV.iconst 1834 rfl dL_law_1833 (v := 0) (by decide) ?_
    exact EV.zret rfl rfl dL_law_1834 h
theorem gL_law_1855 {Γ : Gm} {d : Nat} {σ : AH} {Q : Oc → AH → Prop} {v0 : Nat} {v1 : Nat} {v2 : Nat} {v3 : Nat} {v4 : Nat} {v5 : Int32} (h : ∃ n2 : Nat, hs σ v0 = some (28, n2) ∧ ∃ j3 : Nat, IX (v5 + 1) n2 j3 ∧ ∃ j5 : Nat, IX (v5 + 2) n2 j5 ∧ CI Γ d ML_countOfSize [.ref v1, .int (gi σ v0 j3), .int (gi σ v0 j5), .ref v3] σ (fun r8 σ7 => ∃ n10 : Nat, hs σ7 v0 = some (28, n10) ∧ ∃ j11 : Nat, IX (v5 + 1) n10 j11 ∧ ∃ j13 : Nat, IX (v5 + 2) n10 j13 ∧ hs σ7 v2 = some (7, 27) ∧ CI Γ d MX9_countOfSize [.ref v2, .int (gi σ7 v0 j11), .int (gi σ7 v0 j13)] σ7 (fun r16 σ15 => hs σ15 v2 = some (7, 27) ∧ CI Γ d MX9_thrown [.ref v2] σ15 (fun r19 σ18 => ((r19 = r8 → ((r8 ≠ 0 → EV Γ ML_law d 2703 [some (.ref v0), some (.ref v1), some (.ref v2), some (.ref v3), some (.ref v4), some (.int v5), none, none, none] [] σ18 Q) ∧ (r8 = 0 → ∃ n24 : Nat, hs σ18 v3 = some (23, n24) ∧ ∃ j25 : Nat, IX 0 n24 j25 ∧ (((lg_cmp (gj σ18 v3 j25) (Int32.toInt64 r16)) = 0 → EV Γ ML_law d 2703 [some (.ref v0), some (.ref v1), some (.ref v2), some (.ref v3), some (.ref v4), some (.int v5), none, none, none] [] σ18 Q) ∧ (¬ (lg_cmp (gj σ18 v3 j25) (Int32.toInt64 r16)) = 0 → Q (.inl (some (.int 0))) σ18))))) ∧ (¬ r19 = r8 → Q (.inl (some (.int 0))) σ18))) (fun E σ18 => Q (.inr E) σ18)) (fun E σ15 => Q (.inr E) σ15)) (fun _ _ => False)) : EV Γ ML_law d 1855 [some (.ref v0), some (.ref v1), some (.ref v2), some (.ref v3), some (.ref v4), some (.int v5), none, none, none] [] σ Q := by
  refine EV.aload_n 1856 rfl 1 rfl rfl dL_law_1855 ?_
  refine EV.aload_n 1857 rfl 0 rfl rfl dL_law_1856 ?_
  refine EV.iload 1859 rfl rfl dL_law_1857 ?_
  refine EV.iconst 1860 rfl dL_law_1859 (v := 1) (by decide) ?_
  refine EV.iadd 1861 rfl dL_law_1860 ?_
  obtain ⟨n2, w1, h⟩ := h
  obtain ⟨j3, x4, h⟩ := h
  refine EV.ialdS 1862 rfl dL_law_1861 w1 x4 ?_
  refine EV.aload_n 1863 rfl 0 rfl rfl dL_law_1862 ?_
  refine EV.iload 1865 rfl rfl dL_law_1863 ?_
  refine EV.iconst 1866 rfl dL_law_1865 (v := 2) (by decide) ?_
  refine EV.iadd 1867 rfl dL_law_1866 ?_
  obtain ⟨j5, x6, h⟩ := h
  refine EV.ialdS 1868 rfl dL_law_1867 w1 x6 ?_
  refine EV.aload_n 1869 rfl 3 rfl rfl dL_law_1868 ?_
  refine EV.cSW rfl lk_L_238 rfl (vs := [.ref v1, .int (gi σ v0 j3), .int (gi σ v0 j5), .ref v3]) (st := []) rfl rfl (Nat.le_of_ble_eq_true rfl) dL_law_1869 h (fun v σ7 h => ?_)
  obtain ⟨r8, rfl, h⟩ := h
  show EV Γ ML_law d 1872 [some (.ref v0), some (.ref v1), some (.ref v2), some (.ref v3), some (.ref v4), some (.int v5), none, none, none] [.int r8] σ7 Q
  refine EV.istore 1874 rfl [some (.ref v0), some (.ref v1), some (.ref v2), some (.ref v3), some (.ref v4), some (.int v5), some (.int r8), none, none] (by decide) rfl dL_law_1872 ?_
  refine EV.aload_n 1875 rfl 2 rfl rfl dL_law_1874 ?_
  refine EV.aload_n 1876 rfl 0 rfl rfl dL_law_1875 ?_
  refine EV.iload 1878 rfl rfl dL_law_1876 ?_
  refine EV.iconst 1879 rfl dL_law_1878 (v := 1) (by decide) ?_
  refine EV.iadd 1880 rfl dL_law_1879 ?_
  obtain ⟨n10, w9, h⟩ := h
  obtain ⟨j11, x12, h⟩ := h
  refine EV.ialdS 1881 rfl dL_law_1880 w9 x12 ?_
  refine EV.aload_n 1882 rfl 0 rfl rfl dL_law_1881 ?_
  refine EV.iload 1884 rfl rfl dL_law_1882 ?_
  refine EV.iconst 1885 rfl dL_law_1884 (v := 2) (by decide) ?_
  refine EV.iadd 1886 rfl dL_law_1885 ?_
  obtain ⟨j13, x14, h⟩ := h
  refine EV.ialdS 1887 rfl dL_law_1886 w9 x14 ?_
  obtain ⟨w17, h⟩ := h
  refine EV.cV rfl rfl lk_L_240 rfl (vs := [.int (gi σ7 v0 j11), .int (gi σ7 v0 j13)]) (st := []) rfl rfl (Nat.le_of_ble_eq_true rfl) dL_law_1887 w17 h (fun v σ15 h => ?_)
  obtain ⟨r16, rfl, h⟩ := h
  show EV Γ ML_law d 1890 [some (.ref v0), some (.ref v1), some (.ref v2), some (.ref v3), some (.ref v4), some (.int v5), some (.int r8), none, none] [.int r16] σ15 Q
  refine EV.istore 1892 rfl [some (.ref v0), some (.ref v1), some (.ref v2), some (.ref v3), some (.ref v4), some (.int v5), some (.int r8), some (.int r16), none] (by decide) rfl dL_law_1890 ?_
  refine EV.aload_n 1893 rfl 2 rfl rfl dL_law_1892 ?_
  obtain ⟨w20, h⟩ := h
  refine EV.cV rfl rfl lk_L_147 rfl (vs := []) (st := []) rfl rfl (Nat.le_of_ble_eq_true rfl) dL_law_1893 w20 h (fun v σ18 h => ?_)
  obtain ⟨r19, rfl, h⟩ := h
  show EV Γ ML_law d 1896 [some (.ref v0), some (.ref v1), some (.ref v2), some (.ref v3), some (.ref v4), some (.int v5), some (.int r8), some (.int r16), none] [.int r19] σ18 Q
  refine EV.iload 1898 rfl rfl dL_law_1896 ?_
  refine EV.icmp_eq 1901 1903 rfl (by decide) dL_law_1898 (fun c21 => ?_) (fun c21 => ?_)
  · have h := h.1 c21
    refine EV.iload 1905 rfl rfl dL_law_1903 ?_
    refine EV.if_ne 1908 1920 rfl (by decide) dL_law_1905 (fun c22 => ?_) (fun c22 => ?_)
    · have h := h.1 c22
      refine EV.goto 2703 (by decide) dL_law_1920 ?_
      refine EV.mask [true, true, true, true, true, true, false, false, false] (L' := [some (.ref v0), some (.ref v1), some (.ref v2), some (.ref v3), some (.ref v4), some (.int v5), none, none, none]) rfl ?_
      exact h
    · have h := h.2 c22
      refine EV.aload_n 1909 rfl 3 rfl rfl dL_law_1908 ?_
      refine EV.iconst 1910 rfl dL_law_1909 (v := 0) (by decide) ?_
      obtain ⟨n24, w23, h⟩ := h
      obtain ⟨j25, x26, h⟩ := h
      refine EV.lald 1911 rfl dL_law_1910 w23 x26 ?_
      refine EV.iload 1913 rfl rfl dL_law_1911 ?_
      refine EV.i2l 1914 rfl dL_law_1913 ?_
      refine EV.lcmp 1915 rfl dL_law_1914 ?_
      refine EV.if_eq 1918 1920 rfl (by decide) dL_law_1915 (fun c27 => ?_) (fun c27 => ?_)
      · have h := h.1 c27
        refine EV.goto 2703 (by decide) dL_law_1920 ?_
        refine EV.mask [true, true, true, true, true, true, false, false, false] (L' := [some (.ref v0), some (.ref v1), some (.ref v2), some (.ref v3), some (.ref v4), some (.int v5), none, none, none]) rfl ?_
        exact h
      · have h := h.2 c27
        refine EV.iconst 1919 rfl dL_law_1918 (v := 0) (by decide) ?_
        exact EV.zret rfl rfl dL_law_1919 h
  · have h := h.2 c21
    refine EV.iconst 1902 rfl dL_law_1901 (v := 0) (by decide) ?_
    exact EV.zret rfl rfl dL_law_1902 h
theorem gL_law_1923 {Γ : Gm} {d : Nat} {σ : AH} {Q : Oc → AH → Prop} {v0 : Nat} {v1 : Nat} {v2 : Nat} {v3 : Nat} {v4 : Nat} {v5 : Int32} (h : ∃ n2 : Nat, hs σ v0 = some (28, n2) ∧ ∃ j3 : Nat, IX (v5 + 1) n2 j3 ∧ ∃ j5 : Nat, IX (v5 + 2) n2 j5 ∧ CI Γ d ML_countWith [.ref v1, .int (gi σ v0 j3), .int (gi σ v0 j5), .ref v3] σ (fun r8 σ7 => ∃ n10 : Nat, hs σ7 v0 = some (28, n10) ∧ ∃ j11 : Nat, IX (v5 + 1) n10 j11 ∧ ∃ j13 : Nat, IX (v5 + 2) n10 j13 ∧ hs σ7 v2 = some (7, 27) ∧ CI Γ d MX9_countWith [.ref v2, .int (gi σ7 v0 j11), .int (gi σ7 v0 j13)] σ7 (fun r16 σ15 => hs σ15 v2 = some (7, 27) ∧ CI Γ d MX9_thrown [.ref v2] σ15 (fun r19 σ18 => ((r19 = r8 → ((r8 ≠ 0 → EV Γ ML_law d 2703 [some (.ref v0), some (.ref v1), some (.ref v2), some (.ref v3), some (.ref v4), some (.int v5), none, none, none] [] σ18 Q) ∧ (r8 = 0 → ∃ n24 : Nat, hs σ18 v3 = some (23, n24) ∧ ∃ j25 : Nat, IX 0 n24 j25 ∧ (((lg_cmp (gj σ18 v3 j25) (Int32.toInt64 r16)) = 0 → EV Γ ML_law d 2703 [some (.ref v0), some (.ref v1), some (.ref v2), some (.ref v3), some (.ref v4), some (.int v5), none, none, none] [] σ18 Q) ∧ (¬ (lg_cmp (gj σ18 v3 j25) (Int32.toInt64 r16)) = 0 → Q (.inl (some (.int 0))) σ18))))) ∧ (¬ r19 = r8 → Q (.inl (some (.int 0))) σ18))) (fun E σ18 => Q (.inr E) σ18)) (fun E σ15 => Q (.inr E) σ15)) (fun _ _ => False)) : EV Γ ML_law d 1923 [some (.ref v0), some (.ref v1), some (.ref v2), some (.ref v3), some (.ref v4), some (.int v5), none, none, none] [] σ Q := by
  refine EV.aload_n 1924 rfl 1 rfl rfl dL_law_1923 ?_
  refine EV.aload_n 1925 rfl 0 rfl rfl dL_law_1924 ?_
  refine EV.iload 1927 rfl rfl dL_law_1925 ?_
  refine EV.iconst 1928 rfl dL_law_1927 (v := 1) (by decide) ?_
  refine EV.iadd 1929 rfl dL_law_1928 ?_
  obtain ⟨n2, w1, h⟩ := h
  obtain ⟨j3, x4, h⟩ := h
  refine EV.ialdS 1930 rfl dL_law_1929 w1 x4 ?_
  refine EV.aload_n 1931 rfl 0 rfl rfl dL_law_1930 ?_
  refine EV.iload 1933 rfl rfl dL_law_1931 ?_
  refine EV.iconst 1934 rfl dL_law_1933 (v := 2) (by decide) ?_
  refine EV.iadd 1935 rfl dL_law_1934 ?_
  obtain ⟨j5, x6, h⟩ := h
  refine EV.ialdS 1936 rfl dL_law_1935 w1 x6 ?_
  refine EV.aload_n 1937 rfl 3 rfl rfl dL_law_1936 ?_
  refine EV.cSW rfl lk_L_241 rfl (vs := [.ref v1, .int (gi σ v0 j3), .int (gi σ v0 j5), .ref v3]) (st := []) rfl rfl (Nat.le_of_ble_eq_true rfl) dL_law_1937 h (fun v σ7 h => ?_)
  obtain ⟨r8, rfl, h⟩ := h
  show EV Γ ML_law d 1940 [some (.ref v0), some (.ref v1), some (.ref v2), some (.ref v3), some (.ref v4), some (.int v5), none, none, none] [.int r8] σ7 Q
  refine EV.istore 1942 rfl [some (.ref v0), some (.ref v1), some (.ref v2), some (.ref v3), some (.ref v4), some (.int v5), some (.int r8), none, none] (by decide) rfl dL_law_1940 ?_
  refine EV.aload_n 1943 rfl 2 rfl rfl dL_law_1942 ?_
  refine EV.aload_n 1944 rfl 0 rfl rfl dL_law_1943 ?_
  refine EV.iload 1946 rfl rfl dL_law_1944 ?_
  refine EV.iconst 1947 rfl dL_law_1946 (v := 1) (by decide) ?_
  refine EV.iadd 1948 rfl dL_law_1947 ?_
  obtain ⟨n10, w9, h⟩ := h
  obtain ⟨j11, x12, h⟩ := h
  refine EV.ialdS 1949 rfl dL_law_1948 w9 x12 ?_
  refine EV.aload_n 1950 rfl 0 rfl rfl dL_law_1949 ?_
  refine EV.iload 1952 rfl rfl dL_law_1950 ?_
  refine EV.iconst 1953 rfl dL_law_1952 (v := 2) (by decide) ?_
  refine EV.iadd 1954 rfl dL_law_1953 ?_
  obtain ⟨j13, x14, h⟩ := h
  refine EV.ialdS 1955 rfl dL_law_1954 w9 x14 ?_
  obtain ⟨w17, h⟩ := h
  refine EV.cV rfl rfl lk_L_243 rfl (vs := [.int (gi σ7 v0 j11), .int (gi σ7 v0 j13)]) (st := []) rfl rfl (Nat.le_of_ble_eq_true rfl) dL_law_1955 w17 h (fun v σ15 h => ?_)
  obtain ⟨r16, rfl, h⟩ := h
  show EV Γ ML_law d 1958 [some (.ref v0), some (.ref v1), some (.ref v2), some (.ref v3), some (.ref v4), some (.int v5), some (.int r8), none, none] [.int r16] σ15 Q
  refine EV.istore 1960 rfl [some (.ref v0), some (.ref v1), some (.ref v2), some (.ref v3), some (.ref v4), some (.int v5), some (.int r8), some (.int r16), none] (by decide) rfl dL_law_1958 ?_
  refine EV.aload_n 1961 rfl 2 rfl rfl dL_law_1960 ?_
  obtain ⟨w20, h⟩ := h
  refine EV.cV rfl rfl lk_L_147 rfl (vs := []) (st := []) rfl rfl (Nat.le_of_ble_eq_true rfl) dL_law_1961 w20 h (fun v σ18 h => ?_)
  obtain ⟨r19, rfl, h⟩ := h
  show EV Γ ML_law d 1964 [some (.ref v0), some (.ref v1), some (.ref v2), some (.ref v3), some (.ref v4), some (.int v5), some (.int r8), some (.int r16), none] [.int r19] σ18 Q
  refine EV.iload 1966 rfl rfl dL_law_1964 ?_
  refine EV.icmp_eq 1969 1971 rfl (by decide) dL_law_1966 (fun c21 => ?_) (fun c21 => ?_)
  · have h := h.1 c21
    refine EV.iload 1973 rfl rfl dL_law_1971 ?_
    refine EV.if_ne 1976 1988 rfl (by decide) dL_law_1973 (fun c22 => ?_) (fun c22 => ?_)
    · have h := h.1 c22
      refine EV.goto 2703 (by decide) dL_law_1988 ?_
      refine EV.mask [true, true, true, true, true, true, false, false, false] (L' := [some (.ref v0), some (.ref v1), some (.ref v2), some (.ref v3), some (.ref v4), some (.int v5), none, none, none]) rfl ?_
      exact h
    · have h := h.2 c22
      refine EV.aload_n 1977 rfl 3 rfl rfl dL_law_1976 ?_
      refine EV.iconst 1978 rfl dL_law_1977 (v := 0) (by decide) ?_
      obtain ⟨n24, w23, h⟩ := h
      obtain ⟨j25, x26, h⟩ := h
      refine EV.lald 1979 rfl dL_law_1978 w23 x26 ?_
      refine EV.iload 1981 rfl rfl dL_law_1979 ?_
      refine EV.i2l 1982 rfl dL_law_1981 ?_
      refine EV.lcmp 1983 rfl dL_law_1982 ?_
      refine EV.if_eq 1986 1988 rfl (by decide) dL_law_1983 (fun c27 => ?_) (fun c27 => ?_)
      · have h := h.1 c27
        refine EV.goto 2703 (by decide) dL_law_1988 ?_
        refine EV.mask [true, true, true, true, true, true, false, false, false] (L' := [some (.ref v0), some (.ref v1), some (.ref v2), some (.ref v3), some (.ref v4), some (.int v5), none, none, none]) rfl ?_
        exact h
      · have h := h.2 c27
        refine EV.iconst 1987 rfl dL_law_1986 (v := 0) (by decide) ?_
        exact EV.zret rfl rfl dL_law_1987 h
  · have h := h.2 c21
    refine EV.iconst 1970 rfl dL_law_1969 (v := 0) (by decide) ?_
    exact EV.zret rfl rfl dL_law_1970 h
theorem gL_law_1991 {Γ : Gm} {d : Nat} {σ : AH} {Q : Oc → AH → Prop} {v0 : Nat} {v1 : Nat} {v2 : Nat} {v3 : Nat} {v4 : Nat} {v5 : Int32} (h : ∃ n2 : Nat, hs σ v0 = some (28, n2) ∧ ∃ j3 : Nat, IX (v5 + 1) n2 j3 ∧ ∃ j5 : Nat, IX (v5 + 2) n2 j5 ∧ CI Γ d ML_contains [.ref v1, .int (gi σ v0 j3), .int (gi σ v0 j5), .ref v3] σ (fun r8 σ7 => ∃ n10 : Nat, hs σ7 v0 = some (28, n10) ∧ ∃ j11 : Nat, IX (v5 + 1) n10 j11 ∧ ∃ j13 : Nat, IX (v5 + 2) n10 j13 ∧ hs σ7 v2 = some (7, 27) ∧ CI Γ d MX9_contains [.ref v2, .int (gi σ7 v0 j11), .int (gi σ7 v0 j13)] σ7 (fun r16 σ15 => hs σ15 v2 = some (7, 27) ∧ CI Γ d MX9_thrown [.ref v2] σ15 (fun r19 σ18 => ((r19 = r8 → ((r8 ≠ 0 → EV Γ ML_law d 2703 [some (.ref v0), some (.ref v1), some (.ref v2), some (.ref v3), some (.ref v4), some (.int v5), none, none, none] [] σ18 Q) ∧ (r8 = 0 → ∃ n24 : Nat, hs σ18 v3 = some (23, n24) ∧ ∃ j25 : Nat, IX 0 n24 j25 ∧ ((r16 = 0 → EV Γ ML_law d 2057 [some (.ref v0), some (.ref v1), some (.ref v2), some (.ref v3), some (.ref v4), some (.int v5), none, none, none] [.long 0, .long (gj σ18 v3 j25)] σ18 Q) ∧ (¬ r16 = 0 → EV Γ ML_law d 2057 [some (.ref v0), some (.ref v1), some (.ref v2), some (.ref v3), some (.ref v4), some (.int v5), none, none, none] [.long 1, .long (gj σ18 v3 j25)] σ18 Q))))) ∧ (¬ r19 = r8 → Q (.inl (some (.int 0))) σ18))) (fun E σ18 => Q (.inr E) σ18)) (fun E σ15 => Q (.inr E) σ15)) (fun _ _ => False)) : EV Γ ML_law d 1991 [some (.ref v0), some (.ref v1), some (.ref v2), some (.ref v3), some (.ref v4), some (.int v5), none, none, none] [] σ Q := by
  refine EV.aload_n 1992 rfl 1 rfl rfl dL_law_1991 ?_
  refine EV.aload_n 1993 rfl 0 rfl rfl dL_law_1992 ?_
  refine EV.iload 1995 rfl rfl dL_law_1993 ?_
  refine EV.iconst 1996 rfl dL_law_1995 (v := 1) (by decide) ?_
  refine EV.iadd 1997 rfl dL_law_1996 ?_
  obtain ⟨n2, w1, h⟩ := h
  obtain ⟨j3, x4, h⟩ := h
  refine EV.ialdS 1998 rfl dL_law_1997 w1 x4 ?_
  refine EV.aload_n 1999 rfl 0 rfl rfl dL_law_1998 ?_
  refine EV.iload 2001 rfl rfl dL_law_1999 ?_
  refine EV.iconst 2002 rfl dL_law_2001 (v := 2) (by decide) ?_
  refine EV.iadd 2003 rfl dL_law_2002 ?_
  obtain ⟨j5, x6, h⟩ := h
  refine EV.ialdS 2004 rfl dL_law_2003 w1 x6 ?_
  refine EV.aload_n 2005 rfl 3 rfl rfl dL_law_2004 ?_
  refine EV.cSW rfl lk_L_244 rfl (vs := [.ref v1, .int (gi σ v0 j3), .int (gi σ v0 j5), .ref v3]) (st := []) rfl rfl (Nat.le_of_ble_eq_true rfl) dL_law_2005 h (fun v σ7 h => ?_)
  obtain ⟨r8, rfl, h⟩ := h
  show EV Γ ML_law d 2008 [some (.ref v0), some (.ref v1), some (.ref v2), some (.ref v3), some (.ref v4), some (.int v5), none, none, none] [.int r8] σ7 Q
  refine EV.istore 2010 rfl [some (.ref v0), some (.ref v1), some (.ref v2), some (.ref v3), some (.ref v4), some (.int v5), some (.int r8), none, none] (by decide) rfl dL_law_2008 ?_
  refine EV.aload_n 2011 rfl 2 rfl rfl dL_law_2010 ?_
  refine EV.aload_n 2012 rfl 0 rfl rfl dL_law_2011 ?_
  refine EV.iload 2014 rfl rfl dL_law_2012 ?_
  refine EV.iconst 2015 rfl dL_law_2014 (v := 1) (by decide) ?_
  refine EV.iadd 2016 rfl dL_law_2015 ?_
  obtain ⟨n10, w9, h⟩ := h
  obtain ⟨j11, x12, h⟩ := h
  refine EV.ialdS 2017 rfl dL_law_2016 w9 x12 ?_
  refine EV.aload_n 2018 rfl 0 rfl rfl dL_law_2017 ?_
  refine EV.iload 2020 rfl rfl dL_law_2018 ?_
  refine EV.iconst 2021 rfl dL_law_2020 (v := 2) (by decide) ?_
  refine EV.iadd 2022 rfl dL_law_2021 ?_
  obtain ⟨j13, x14, h⟩ := h
  refine EV.ialdS 2023 rfl dL_law_2022 w9 x14 ?_
  obtain ⟨w17, h⟩ := h
  refine EV.cV rfl rfl lk_L_246 rfl (vs := [.int (gi σ7 v0 j11), .int (gi σ7 v0 j13)]) (st := []) rfl rfl (Nat.le_of_ble_eq_true rfl) dL_law_2023 w17 h (fun v σ15 h => ?_)
  obtain ⟨r16, rfl, h⟩ := h
  show EV Γ ML_law d 2026 [some (.ref v0), some (.ref v1), some (.ref v2), some (.ref v3), some (.ref v4), some (.int v5), some (.int r8), none, none] [.int r16] σ15 Q
  refine EV.istore 2028 rfl [some (.ref v0), some (.ref v1), some (.ref v2), some (.ref v3), some (.ref v4), some (.int v5), some (.int r8), some (.int r16), none] (by decide) rfl dL_law_2026 ?_
  refine EV.aload_n 2029 rfl 2 rfl rfl dL_law_2028 ?_
  obtain ⟨w20, h⟩ := h
  refine EV.cV rfl rfl lk_L_147 rfl (vs := []) (st := []) rfl rfl (Nat.le_of_ble_eq_true rfl) dL_law_2029 w20 h (fun v σ18 h => ?_)
  obtain ⟨r19, rfl, h⟩ := h
  show EV Γ ML_law d 2032 [some (.ref v0), some (.ref v1), some (.ref v2), some (.ref v3), some (.ref v4), some (.int v5), some (.int r8), some (.int r16), none] [.int r19] σ18 Q
  refine EV.iload 2034 rfl rfl dL_law_2032 ?_
  refine EV.icmp_eq 2037 2039 rfl (by decide) dL_law_2034 (fun c21 => ?_) (fun c21 => ?_)
  · have h := h.1 c21
    refine EV.iload 2041 rfl rfl dL_law_2039 ?_
    refine EV.if_ne 2044 2063 rfl (by decide) dL_law_2041 (fun c22 => ?_) (fun c22 => ?_)
    · have h := h.1 c22
      refine EV.goto 2703 (by decide) dL_law_2063 ?_
      refine EV.mask [true, true, true, true, true, true, false, false, false] (L' := [some (.ref v0), some (.ref v1), some (.ref v2), some (.ref v3), some (.ref v4), some (.int v5), none, none, none]) rfl ?_
      exact h
    · have h := h.2 c22
      refine EV.aload_n 2045 rfl 3 rfl rfl dL_law_2044 ?_
      refine EV.iconst 2046 rfl dL_law_2045 (v := 0) (by decide) ?_
      obtain ⟨n24, w23, h⟩ := h
      obtain ⟨j25, x26, h⟩ := h
      refine EV.lald 2047 rfl dL_law_2046 w23 x26 ?_
      refine EV.iload 2049 rfl rfl dL_law_2047 ?_
      refine EV.if_eq 2052 2056 rfl (by decide) dL_law_2049 (fun c27 => ?_) (fun c27 => ?_)
      · have h := h.1 c27
        refine EV.lconst 2057 rfl dL_law_2056 (v := 0) (by decide) ?_
        refine EV.mask [true, true, true, true, true, true, false, false, false] (L' := [some (.ref v0), some (.ref v1), some (.ref v2), some (.ref v3), some (.ref v4), some (.int v5), none, none, none]) rfl ?_
        exact h
      · have h := h.2 c27
        refine EV.lconst 2053 rfl dL_law_2052 (v := 1) (by decide) ?_
        refine EV.goto 2057 (by decide) dL_law_2053 ?_
        refine EV.mask [true, true, true, true, true, true, false, false, false] (L' := [some (.ref v0), some (.ref v1), some (.ref v2), some (.ref v3), some (.ref v4), some (.int v5), none, none, none]) rfl ?_
        exact h
  · have h := h.2 c21
    refine EV.iconst 2038 rfl dL_law_2037 (v := 0) (by decide) ?_
    exact EV.zret rfl rfl dL_law_2038 h
theorem gL_law_2057 {Γ : Gm} {d : Nat} {σ : AH} {Q : Oc → AH → Prop} {v0 : Nat} {v1 : Nat} {v2 : Nat} {v3 : Nat} {v4 : Nat} {v5 : Int32} {s0 : Int64} {s1 : Int64} (h : (((lg_cmp s1 s0) = 0 → EV Γ ML_law d 2703 [some (.ref v0), some (.ref v1), some (.ref v2), some (.ref v3), some (.ref v4), some (.int v5), none, none, none] [] σ Q) ∧ (¬ (lg_cmp s1 s0) = 0 → Q (.inl (some (.int 0))) σ))) : EV Γ ML_law d 2057 [some (.ref v0), some (.ref v1), some (.ref v2), some (.ref v3), some (.ref v4), some (.int v5), none, none, none] [.long s0, .long s1] σ Q := by
  refine EV.lcmp 2058 rfl dL_law_2057 ?_
  refine EV.if_eq 2061 2063 rfl (by decide) dL_law_2058 (fun c1 => ?_) (fun c1 => ?_)
  · have h := h.1 c1
    refine EV.goto 2703 (by decide) dL_law_2063 ?_
    exact h
  · have h := h.2 c1
    refine EV.iconst 2062 rfl dL_law_2061 (v := 0) (by decide) ?_
    exact EV.zret rfl rfl dL_law_2062 h
theorem gL_law_2066 {Γ : Gm} {d : Nat} {σ : AH} {Q : Oc → AH → Prop} {v0 : Nat} {v1 : Nat} {v2 : Nat} {v3 : Nat} {v4 : Nat} {v5 : Int32} (h : ∃ n2 : Nat, hs σ v0 = some (28, n2) ∧ ∃ j3 : Nat, IX (v5 + 1) n2 j3 ∧ ∃ j5 : Nat, IX (v5 + 2) n2 j5 ∧ CI Γ d ML_areEqual [.ref v1, .int (gi σ v0 j3), .int (gi σ v0 j5), .ref v3] σ (fun r8 σ7 => ∃ n10 : Nat, hs σ7 v0 = some (28, n10) ∧ ∃ j11 : Nat, IX (v5 + 1) n10 j11 ∧ ∃ j13 : Nat, IX (v5 + 2) n10 j13 ∧ hs σ7 v2 = some (7, 27) ∧ CI Γ d MX9_areEqual [.ref v2, .int (gi σ7 v0 j11), .int (gi σ7 v0 j13)] σ7 (fun r16 σ15 => hs σ15 v2 = some (7, 27) ∧ CI Γ d MX9_thrown [.ref v2] σ15 (fun r19 σ18 => ((r19 = r8 → ((r8 ≠ 0 → EV Γ ML_law d 2703 [some (.ref v0), some (.ref v1), some (.ref v2), some (.ref v3), some (.ref v4), some (.int v5), none, none, none] [] σ18 Q) ∧ (r8 = 0 → ∃ n24 : Nat, hs σ18 v3 = some (23, n24) ∧ ∃ j25 : Nat, IX 0 n24 j25 ∧ ((r16 = 0 → EV Γ ML_law d 2132 [some (.ref v0), some (.ref v1), some (.ref v2), some (.ref v3), some (.ref v4), some (.int v5), none, none, none] [.long 0, .long (gj σ18 v3 j25)] σ18 Q) ∧ (¬ r16 = 0 → EV Γ ML_law d 2132 [some (.ref v0), some (.ref v1), some (.ref v2), some (.ref v3), some (.ref v4), some (.int v5), none, none, none] [.long 1, .long (gj σ18 v3 j25)] σ18 Q))))) ∧ (¬ r19 = r8 → Q (.inl (some (.int 0))) σ18))) (fun E σ18 => Q (.inr E) σ18)) (fun E σ15 => Q (.inr E) σ15)) (fun _ _ => False)) : EV Γ ML_law d 2066 [some (.ref v0), some (.ref v1), some (.ref v2), some (.ref v3), some (.ref v4), some (.int v5), none, none, none] [] σ Q := by
  refine EV.aload_n 2067 rfl 1 rfl rfl dL_law_2066 ?_
  refine EV.aload_n 2068 rfl 0 rfl rfl dL_law_2067 ?_
  refine EV.iload 2070 rfl rfl dL_law_2068 ?_
  refine EV.iconst 2071 rfl dL_law_2070 (v := 1) (by decide) ?_
  refine EV.iadd 2072 rfl dL_law_2071 ?_
  obtain ⟨n2, w1, h⟩ := h
  obtain ⟨j3, x4, h⟩ := h
  refine EV.ialdS 2073 rfl dL_law_2072 w1 x4 ?_
  refine EV.aload_n 2074 rfl 0 rfl rfl dL_law_2073 ?_
  refine EV.iload 2076 rfl rfl dL_law_2074 ?_
  refine EV.iconst 2077 rfl dL_law_2076 (v := 2) (by decide) ?_
  refine EV.iadd 2078 rfl dL_law_2077 ?_
  obtain ⟨j5, x6, h⟩ := h
  refine EV.ialdS 2079 rfl dL_law_2078 w1 x6 ?_
  refine EV.aload_n 2080 rfl 3 rfl rfl dL_law_2079 ?_
  refine EV.cSW rfl lk_L_247 rfl (vs := [.ref v1, .int (gi σ v0 j3), .int (gi σ v0 j5), .ref v3]) (st := []) rfl rfl (Nat.le_of_ble_eq_true rfl) dL_law_2080 h (fun v σ7 h => ?_)
  obtain ⟨r8, rfl, h⟩ := h
  show EV Γ ML_law d 2083 [some (.ref v0), some (.ref v1), some (.ref v2), some (.ref v3), some (.ref v4), some (.int v5), none, none, none] [.int r8] σ7 Q
  refine EV.istore 2085 rfl [some (.ref v0), some (.ref v1), some (.ref v2), some (.ref v3), some (.ref v4), some (.int v5), some (.int r8), none, none] (by decide) rfl dL_law_2083 ?_
  refine EV.aload_n 2086 rfl 2 rfl rfl dL_law_2085 ?_
  refine EV.aload_n 2087 rfl 0 rfl rfl dL_law_2086 ?_
  refine EV.iload 2089 rfl rfl dL_law_2087 ?_
  refine EV.iconst 2090 rfl dL_law_2089 (v := 1) (by decide) ?_
  refine EV.iadd 2091 rfl dL_law_2090 ?_
  obtain ⟨n10, w9, h⟩ := h
  obtain ⟨j11, x12, h⟩ := h
  refine EV.ialdS 2092 rfl dL_law_2091 w9 x12 ?_
  refine EV.aload_n 2093 rfl 0 rfl rfl dL_law_2092 ?_
  refine EV.iload 2095 rfl rfl dL_law_2093 ?_
  refine EV.iconst 2096 rfl dL_law_2095 (v := 2) (by decide) ?_
  refine EV.iadd 2097 rfl dL_law_2096 ?_
  obtain ⟨j13, x14, h⟩ := h
  refine EV.ialdS 2098 rfl dL_law_2097 w9 x14 ?_
  obtain ⟨w17, h⟩ := h
  refine EV.cV rfl rfl lk_L_249 rfl (vs := [.int (gi σ7 v0 j11), .int (gi σ7 v0 j13)]) (st := []) rfl rfl (Nat.le_of_ble_eq_true rfl) dL_law_2098 w17 h (fun v σ15 h => ?_)
  obtain ⟨r16, rfl, h⟩ := h
  show EV Γ ML_law d 2101 [some (.ref v0), some (.ref v1), some (.ref v2), some (.ref v3), some (.ref v4), some (.int v5), some (.int r8), none, none] [.int r16] σ15 Q
  refine EV.istore 2103 rfl [some (.ref v0), some (.ref v1), some (.ref v2), some (.ref v3), some (.ref v4), some (.int v5), some (.int r8), some (.int r16), none] (by decide) rfl dL_law_2101 ?_
  refine EV.aload_n 2104 rfl 2 rfl rfl dL_law_2103 ?_
  obtain ⟨w20, h⟩ := h
  refine EV.cV rfl rfl lk_L_147 rfl (vs := []) (st := []) rfl rfl (Nat.le_of_ble_eq_true rfl) dL_law_2104 w20 h (fun v σ18 h => ?_)
  obtain ⟨r19, rfl, h⟩ := h
  show EV Γ ML_law d 2107 [some (.ref v0), some (.ref v1), some (.ref v2), some (.ref v3), some (.ref v4), some (.int v5), some (.int r8), some (.int r16), none] [.int r19] σ18 Q
  refine EV.iload 2109 rfl rfl dL_law_2107 ?_
  refine EV.icmp_eq 2112 2114 rfl (by decide) dL_law_2109 (fun c21 => ?_) (fun c21 => ?_)
  · have h := h.1 c21
    refine EV.iload 2116 rfl rfl dL_law_2114 ?_
    refine EV.if_ne 2119 2138 rfl (by decide) dL_law_2116 (fun c22 => ?_) (fun c22 => ?_)
    · have h := h.1 c22
      refine EV.goto 2703 (by decide) dL_law_2138 ?_
      refine EV.mask [true, true, true, true, true, true, false, false, false] (L' := [some (.ref v0), some (.ref v1), some (.ref v2), some (.ref v3), some (.ref v4), some (.int v5), none, none, none]) rfl ?_
      exact h
    · have h := h.2 c22
      refine EV.aload_n 2120 rfl 3 rfl rfl dL_law_2119 ?_
      refine EV.iconst 2121 rfl dL_law_2120 (v := 0) (by decide) ?_
      obtain ⟨n24, w23, h⟩ := h
      obtain ⟨j25, x26, h⟩ := h
      refine EV.lald 2122 rfl dL_law_2121 w23 x26 ?_
      refine EV.iload 2124 rfl rfl dL_law_2122 ?_
      refine EV.if_eq 2127 2131 rfl (by decide) dL_law_2124 (fun c27 => ?_) (fun c27 => ?_)
      · have h := h.1 c27
        refine EV.lconst 2132 rfl dL_law_2131 (v := 0) (by decide) ?_
        refine EV.mask [true, true, true, true, true, true, false, false, false] (L' := [some (.ref v0), some (.ref v1), some (.ref v2), some (.ref v3), some (.ref v4), some (.int v5), none, none, none]) rfl ?_
        exact h
      · have h := h.2 c27
        refine EV.lconst 2128 rfl dL_law_2127 (v := 1) (by decide) ?_
        refine EV.goto 2132 (by decide) dL_law_2128 ?_
        refine EV.mask [true, true, true, true, true, true, false, false, false] (L' := [some (.ref v0), some (.ref v1), some (.ref v2), some (.ref v3), some (.ref v4), some (.int v5), none, none, none]) rfl ?_
        exact h
  · have h := h.2 c21
    refine EV.iconst 2113 rfl dL_law_2112 (v := 0) (by decide) ?_
    exact EV.zret rfl rfl dL_law_2113 h
theorem gL_law_2132 {Γ : Gm} {d : Nat} {σ : AH} {Q : Oc → AH → Prop} {v0 : Nat} {v1 : Nat} {v2 : Nat} {v3 : Nat} {v4 : Nat} {v5 : Int32} {s0 : Int64} {s1 : Int64} (h : (((lg_cmp s1 s0) = 0 → EV Γ ML_law d 2703 [some (.ref v0), some (.ref v1), some (.ref v2), some (.ref v3), some (.ref v4), some (.int v5), none, none, none] [] σ Q) ∧ (¬ (lg_cmp s1 s0) = 0 → Q (.inl (some (.int 0))) σ))) : EV Γ ML_law d 2132 [some (.ref v0), some (.ref v1), some (.ref v2), some (.ref v3), some (.ref v4), some (.int v5), none, none, none] [.long s0, .long s1] σ Q := by
  refine EV.lcmp 2133 rfl dL_law_2132 ?_
  refine EV.if_eq 2136 2138 rfl (by decide) dL_law_2133 (fun c1 => ?_) (fun c1 => ?_)
  · have h := h.1 c1
    refine EV.goto 2703 (by decide) dL_law_2138 ?_
    exact h
  · have h := h.2 c1
    refine EV.iconst 2137 rfl dL_law_2136 (v := 0) (by decide) ?_
    exact EV.zret rfl rfl dL_law_2137 h
theorem gL_law_2141 {Γ : Gm} {d : Nat} {σ : AH} {Q : Oc → AH → Prop} {v0 : Nat} {v1 : Nat} {v2 : Nat} {v3 : Nat} {v4 : Nat} {v5 : Int32} (h : ∃ n2 : Nat, hs σ v0 = some (28, n2) ∧ ∃ j3 : Nat, IX (v5 + 1) n2 j3 ∧ ∃ j5 : Nat, IX (v5 + 2) n2 j5 ∧ CI Γ d ML_isPartOf [.ref v1, .int (gi σ v0 j3), .int (gi σ v0 j5), .ref v3] σ (fun r8 σ7 => ∃ n10 : Nat, hs σ7 v0 = some (28, n10) ∧ ∃ j11 : Nat, IX (v5 + 1) n10 j11 ∧ ∃ j13 : Nat, IX (v5 + 2) n10 j13 ∧ hs σ7 v2 = some (7, 27) ∧ CI Γ d MX9_isPartOf [.ref v2, .int (gi σ7 v0 j11), .int (gi σ7 v0 j13)] σ7 (fun r16 σ15 => hs σ15 v2 = some (7, 27) ∧ CI Γ d MX9_thrown [.ref v2] σ15 (fun r19 σ18 => ((r19 = r8 → ((r8 ≠ 0 → EV Γ ML_law d 2703 [some (.ref v0), some (.ref v1), some (.ref v2), some (.ref v3), some (.ref v4), some (.int v5), none, none, none] [] σ18 Q) ∧ (r8 = 0 → ∃ n24 : Nat, hs σ18 v3 = some (23, n24) ∧ ∃ j25 : Nat, IX 0 n24 j25 ∧ ((r16 = 0 → EV Γ ML_law d 2207 [some (.ref v0), some (.ref v1), some (.ref v2), some (.ref v3), some (.ref v4), some (.int v5), none, none, none] [.long 0, .long (gj σ18 v3 j25)] σ18 Q) ∧ (¬ r16 = 0 → EV Γ ML_law d 2207 [some (.ref v0), some (.ref v1), some (.ref v2), some (.ref v3), some (.ref v4), some (.int v5), none, none, none] [.long 1, .long (gj σ18 v3 j25)] σ18 Q))))) ∧ (¬ r19 = r8 → Q (.inl (some (.int 0))) σ18))) (fun E σ18 => Q (.inr E) σ18)) (fun E σ15 => Q (.inr E) σ15)) (fun _ _ => False)) : EV Γ ML_law d 2141 [some (.ref v0), some (.ref v1), some (.ref v2), some (.ref v3), some (.ref v4), some (.int v5), none, none, none] [] σ Q := by
  refine EV.aload_n 2142 rfl 1 rfl rfl dL_law_2141 ?_
  refine EV.aload_n 2143 rfl 0 rfl rfl dL_law_2142 ?_
  refine EV.iload 2145 rfl rfl dL_law_2143 ?_
  refine EV.iconst 2146 rfl dL_law_2145 (v := 1) (by decide) ?_
  refine EV.iadd 2147 rfl dL_law_2146 ?_
  obtain ⟨n2, w1, h⟩ := h
  obtain ⟨j3, x4, h⟩ := h
  refine EV.ialdS 2148 rfl dL_law_2147 w1 x4 ?_
  refine EV.aload_n 2149 rfl 0 rfl rfl dL_law_2148 ?_
  refine EV.iload 2151 rfl rfl dL_law_2149 ?_
  refine EV.iconst 2152 rfl dL_law_2151 (v := 2) (by decide) ?_
  refine EV.iadd 2153 rfl dL_law_2152 ?_
  obtain ⟨j5, x6, h⟩ := h
  refine EV.ialdS 2154 rfl dL_law_2153 w1 x6 ?_
  refine EV.aload_n 2155 rfl 3 rfl rfl dL_law_2154 ?_
  refine EV.cSW rfl lk_L_250 rfl (vs := [.ref v1, .int (gi σ v0 j3), .int (gi σ v0 j5), .ref v3]) (st := []) rfl rfl (Nat.le_of_ble_eq_true rfl) dL_law_2155 h (fun v σ7 h => ?_)
  obtain ⟨r8, rfl, h⟩ := h
  show EV Γ ML_law d 2158 [some (.ref v0), some (.ref v1), some (.ref v2), some (.ref v3), some (.ref v4), some (.int v5), none, none, none] [.int r8] σ7 Q
  refine EV.istore 2160 rfl [some (.ref v0), some (.ref v1), some (.ref v2), some (.ref v3), some (.ref v4), some (.int v5), some (.int r8), none, none] (by decide) rfl dL_law_2158 ?_
  refine EV.aload_n 2161 rfl 2 rfl rfl dL_law_2160 ?_
  refine EV.aload_n 2162 rfl 0 rfl rfl dL_law_2161 ?_
  refine EV.iload 2164 rfl rfl dL_law_2162 ?_
  refine EV.iconst 2165 rfl dL_law_2164 (v := 1) (by decide) ?_
  refine EV.iadd 2166 rfl dL_law_2165 ?_
  obtain ⟨n10, w9, h⟩ := h
  obtain ⟨j11, x12, h⟩ := h
  refine EV.ialdS 2167 rfl dL_law_2166 w9 x12 ?_
  refine EV.aload_n 2168 rfl 0 rfl rfl dL_law_2167 ?_
  refine EV.iload 2170 rfl rfl dL_law_2168 ?_
  refine EV.iconst 2171 rfl dL_law_2170 (v := 2) (by decide) ?_
  refine EV.iadd 2172 rfl dL_law_2171 ?_
  obtain ⟨j13, x14, h⟩ := h
  refine EV.ialdS 2173 rfl dL_law_2172 w9 x14 ?_
  obtain ⟨w17, h⟩ := h
  refine EV.cV rfl rfl lk_L_252 rfl (vs := [.int (gi σ7 v0 j11), .int (gi σ7 v0 j13)]) (st := []) rfl rfl (Nat.le_of_ble_eq_true rfl) dL_law_2173 w17 h (fun v σ15 h => ?_)
  obtain ⟨r16, rfl, h⟩ := h
  show EV Γ ML_law d 2176 [some (.ref v0), some (.ref v1), some (.ref v2), some (.ref v3), some (.ref v4), some (.int v5), some (.int r8), none, none] [.int r16] σ15 Q
  refine EV.istore 2178 rfl [some (.ref v0), some (.ref v1), some (.ref v2), some (.ref v3), some (.ref v4), some (.int v5), some (.int r8), some (.int r16), none] (by decide) rfl dL_law_2176 ?_
  refine EV.aload_n 2179 rfl 2 rfl rfl dL_law_2178 ?_
  obtain ⟨w20, h⟩ := h
  refine EV.cV rfl rfl lk_L_147 rfl (vs := []) (st := []) rfl rfl (Nat.le_of_ble_eq_true rfl) dL_law_2179 w20 h (fun v σ18 h => ?_)
  obtain ⟨r19, rfl, h⟩ := h
  show EV Γ ML_law d 2182 [some (.ref v0), some (.ref v1), some (.ref v2), some (.ref v3), some (.ref v4), some (.int v5), some (.int r8), some (.int r16), none] [.int r19] σ18 Q
  refine EV.iload 2184 rfl rfl dL_law_2182 ?_
  refine EV.icmp_eq 2187 2189 rfl (by decide) dL_law_2184 (fun c21 => ?_) (fun c21 => ?_)
  · have h := h.1 c21
    refine EV.iload 2191 rfl rfl dL_law_2189 ?_
    refine EV.if_ne 2194 2213 rfl (by decide) dL_law_2191 (fun c22 => ?_) (fun c22 => ?_)
    · have h := h.1 c22
      refine EV.goto 2703 (by decide) dL_law_2213 ?_
      refine EV.mask [true, true, true, true, true, true, false, false, false] (L' := [some (.ref v0), some (.ref v1), some (.ref v2), some (.ref v3), some (.ref v4), some (.int v5), none, none, none]) rfl ?_
      exact h
    · have h := h.2 c22
      refine EV.aload_n 2195 rfl 3 rfl rfl dL_law_2194 ?_
      refine EV.iconst 2196 rfl dL_law_2195 (v := 0) (by decide) ?_
      obtain ⟨n24, w23, h⟩ := h
      obtain ⟨j25, x26, h⟩ := h
      refine EV.lald 2197 rfl dL_law_2196 w23 x26 ?_
      refine EV.iload 2199 rfl rfl dL_law_2197 ?_
      refine EV.if_eq 2202 2206 rfl (by decide) dL_law_2199 (fun c27 => ?_) (fun c27 => ?_)
      · have h := h.1 c27
        refine EV.lconst 2207 rfl dL_law_2206 (v := 0) (by decide) ?_
        refine EV.mask [true, true, true, true, true, true, false, false, false] (L' := [some (.ref v0), some (.ref v1), some (.ref v2), some (.ref v3), some (.ref v4), some (.int v5), none, none, none]) rfl ?_
        exact h
      · have h := h.2 c27
        refine EV.lconst 2203 rfl dL_law_2202 (v := 1) (by decide) ?_
        refine EV.goto 2207 (by decide) dL_law_2203 ?_
        refine EV.mask [true, true, true, true, true, true, false, false, false] (L' := [some (.ref v0), some (.ref v1), some (.ref v2), some (.ref v3), some (.ref v4), some (.int v5), none, none, none]) rfl ?_
        exact h
  · have h := h.2 c21
    refine EV.iconst 2188 rfl dL_law_2187 (v := 0) (by decide) ?_
    exact EV.zret rfl rfl dL_law_2188 h
theorem gL_law_2207 {Γ : Gm} {d : Nat} {σ : AH} {Q : Oc → AH → Prop} {v0 : Nat} {v1 : Nat} {v2 : Nat} {v3 : Nat} {v4 : Nat} {v5 : Int32} {s0 : Int64} {s1 : Int64} (h : (((lg_cmp s1 s0) = 0 → EV Γ ML_law d 2703 [some (.ref v0), some (.ref v1), some (.ref v2), some (.ref v3), some (.ref v4), some (.int v5), none, none, none] [] σ Q) ∧ (¬ (lg_cmp s1 s0) = 0 → Q (.inl (some (.int 0))) σ))) : EV Γ ML_law d 2207 [some (.ref v0), some (.ref v1), some (.ref v2), some (.ref v3), some (.ref v4), some (.int v5), none, none, none] [.long s0, .long s1] σ Q := by
  refine EV.lcmp 2208 rfl dL_law_2207 ?_
  refine EV.if_eq 2211 2213 rfl (by decide) dL_law_2208 (fun c1 => ?_) (fun c1 => ?_)
  · have h := h.1 c1
    refine EV.goto 2703 (by decide) dL_law_2213 ?_
    exact h
  · have h := h.2 c1
    refine EV.iconst 2212 rfl dL_law_2211 (v := 0) (by decide) ?_
    exact EV.zret rfl rfl dL_law_2212 h
theorem gL_law_2216 {Γ : Gm} {d : Nat} {σ : AH} {Q : Oc → AH → Prop} {v0 : Nat} {v1 : Nat} {v2 : Nat} {v3 : Nat} {v4 : Nat} {v5 : Int32} (h : ∃ n2 : Nat, hs σ v0 = some (28, n2) ∧ ∃ j3 : Nat, IX (v5 + 1) n2 j3 ∧ ∃ j5 : Nat, IX (v5 + 2) n2 j5 ∧ CI Γ d ML_setAt [.ref v1, .int (gi σ v0 j3), .int (gi σ v0 j5), .ref v3] σ (fun r8 σ7 => ∃ n10 : Nat, hs σ7 v0 = some (28, n10) ∧ ∃ j11 : Nat, IX (v5 + 1) n10 j11 ∧ ∃ j13 : Nat, IX (v5 + 2) n10 j13 ∧ hs σ7 v2 = some (7, 27) ∧ CI Γ d MX9_setAt [.ref v2, .int (gi σ7 v0 j11), .int (gi σ7 v0 j13)] σ7 (fun r16 σ15 => hs σ15 v2 = some (7, 27) ∧ CI Γ d MX9_thrown [.ref v2] σ15 (fun r19 σ18 => ((r19 = r8 → ((r8 ≠ 0 → EV Γ ML_law d 2703 [some (.ref v0), some (.ref v1), some (.ref v2), some (.ref v3), some (.ref v4), some (.int v5), none, none, none] [] σ18 Q) ∧ (r8 = 0 → ∃ n24 : Nat, hs σ18 v3 = some (23, n24) ∧ ∃ j25 : Nat, IX 0 n24 j25 ∧ (((lg_cmp (gj σ18 v3 j25) (Int32.toInt64 r16)) = 0 → EV Γ ML_law d 2703 [some (.ref v0), some (.ref v1), some (.ref v2), some (.ref v3), some (.ref v4), some (.int v5), none, none, none] [] σ18 Q) ∧ (¬ (lg_cmp (gj σ18 v3 j25) (Int32.toInt64 r16)) = 0 → Q (.inl (some (.int 0))) σ18))))) ∧ (¬ r19 = r8 → Q (.inl (some (.int 0))) σ18))) (fun E σ18 => Q (.inr E) σ18)) (fun E σ15 => Q (.inr E) σ15)) (fun _ _ => False)) : EV Γ ML_law d 2216 [some (.ref v0), some (.ref v1), some (.ref v2), some (.ref v3), some (.ref v4), some (.int v5), none, none, none] [] σ Q := by
  refine EV.aload_n 2217 rfl 1 rfl rfl dL_law_2216 ?_
  refine EV.aload_n 2218 rfl 0 rfl rfl dL_law_2217 ?_
  refine EV.iload 2220 rfl rfl dL_law_2218 ?_
  refine EV.iconst 2221 rfl dL_law_2220 (v := 1) (by decide) ?_
  refine EV.iadd 2222 rfl dL_law_2221 ?_
  obtain ⟨n2, w1, h⟩ := h
  obtain ⟨j3, x4, h⟩ := h
  refine EV.ialdS 2223 rfl dL_law_2222 w1 x4 ?_
  refine EV.aload_n 2224 rfl 0 rfl rfl dL_law_2223 ?_
  refine EV.iload 2226 rfl rfl dL_law_2224 ?_
  refine EV.iconst 2227 rfl dL_law_2226 (v := 2) (by decide) ?_
  refine EV.iadd 2228 rfl dL_law_2227 ?_
  obtain ⟨j5, x6, h⟩ := h
  refine EV.ialdS 2229 rfl dL_law_2228 w1 x6 ?_
  refine EV.aload_n 2230 rfl 3 rfl rfl dL_law_2229 ?_
  refine EV.cSW rfl lk_L_253 rfl (vs := [.ref v1, .int (gi σ v0 j3), .int (gi σ v0 j5), .ref v3]) (st := []) rfl rfl (Nat.le_of_ble_eq_true rfl) dL_law_2230 h (fun v σ7 h => ?_)
  obtain ⟨r8, rfl, h⟩ := h
  show EV Γ ML_law d 2233 [some (.ref v0), some (.ref v1), some (.ref v2), some (.ref v3), some (.ref v4), some (.int v5), none, none, none] [.int r8] σ7 Q
  refine EV.istore 2235 rfl [some (.ref v0), some (.ref v1), some (.ref v2), some (.ref v3), some (.ref v4), some (.int v5), some (.int r8), none, none] (by decide) rfl dL_law_2233 ?_
  refine EV.aload_n 2236 rfl 2 rfl rfl dL_law_2235 ?_
  refine EV.aload_n 2237 rfl 0 rfl rfl dL_law_2236 ?_
  refine EV.iload 2239 rfl rfl dL_law_2237 ?_
  refine EV.iconst 2240 rfl dL_law_2239 (v := 1) (by decide) ?_
  refine EV.iadd 2241 rfl dL_law_2240 ?_
  obtain ⟨n10, w9, h⟩ := h
  obtain ⟨j11, x12, h⟩ := h
  refine EV.ialdS 2242 rfl dL_law_2241 w9 x12 ?_
  refine EV.aload_n 2243 rfl 0 rfl rfl dL_law_2242 ?_
  refine EV.iload 2245 rfl rfl dL_law_2243 ?_
  refine EV.iconst 2246 rfl dL_law_2245 (v := 2) (by decide) ?_
  refine EV.iadd 2247 rfl dL_law_2246 ?_
  obtain ⟨j13, x14, h⟩ := h
  refine EV.ialdS 2248 rfl dL_law_2247 w9 x14 ?_
  obtain ⟨w17, h⟩ := h
  refine EV.cV rfl rfl lk_L_255 rfl (vs := [.int (gi σ7 v0 j11), .int (gi σ7 v0 j13)]) (st := []) rfl rfl (Nat.le_of_ble_eq_true rfl) dL_law_2248 w17 h (fun v σ15 h => ?_)
  obtain ⟨r16, rfl, h⟩ := h
  show EV Γ ML_law d 2251 [some (.ref v0), some (.ref v1), some (.ref v2), some (.ref v3), some (.ref v4), some (.int v5), some (.int r8), none, none] [.int r16] σ15 Q
  refine EV.istore 2253 rfl [some (.ref v0), some (.ref v1), some (.ref v2), some (.ref v3), some (.ref v4), some (.int v5), some (.int r8), some (.int r16), none] (by decide) rfl dL_law_2251 ?_
  refine EV.aload_n 2254 rfl 2 rfl rfl dL_law_2253 ?_
  obtain ⟨w20, h⟩ := h
  refine EV.cV rfl rfl lk_L_147 rfl (vs := []) (st := []) rfl rfl (Nat.le_of_ble_eq_true rfl) dL_law_2254 w20 h (fun v σ18 h => ?_)
  obtain ⟨r19, rfl, h⟩ := h
  show EV Γ ML_law d 2257 [some (.ref v0), some (.ref v1), some (.ref v2), some (.ref v3), some (.ref v4), some (.int v5), some (.int r8), some (.int r16), none] [.int r19] σ18 Q
  refine EV.iload 2259 rfl rfl dL_law_2257 ?_
  refine EV.icmp_eq 2262 2264 rfl (by decide) dL_law_2259 (fun c21 => ?_) (fun c21 => ?_)
  · have h := h.1 c21
    refine EV.iload 2266 rfl rfl dL_law_2264 ?_
    refine EV.if_ne 2269 2281 rfl (by decide) dL_law_2266 (fun c22 => ?_) (fun c22 => ?_)
    · have h := h.1 c22
      refine EV.goto 2703 (by decide) dL_law_2281 ?_
      refine EV.mask [true, true, true, true, true, true, false, false, false] (L' := [some (.ref v0), some (.ref v1), some (.ref v2), some (.ref v3), some (.ref v4), some (.int v5), none, none, none]) rfl ?_
      exact h
    · have h := h.2 c22
      refine EV.aload_n 2270 rfl 3 rfl rfl dL_law_2269 ?_
      refine EV.iconst 2271 rfl dL_law_2270 (v := 0) (by decide) ?_
      obtain ⟨n24, w23, h⟩ := h
      obtain ⟨j25, x26, h⟩ := h
      refine EV.lald 2272 rfl dL_law_2271 w23 x26 ?_
      refine EV.iload 2274 rfl rfl dL_law_2272 ?_
      refine EV.i2l 2275 rfl dL_law_2274 ?_
      refine EV.lcmp 2276 rfl dL_law_2275 ?_
      refine EV.if_eq 2279 2281 rfl (by decide) dL_law_2276 (fun c27 => ?_) (fun c27 => ?_)
      · have h := h.1 c27
        refine EV.goto 2703 (by decide) dL_law_2281 ?_
        refine EV.mask [true, true, true, true, true, true, false, false, false] (L' := [some (.ref v0), some (.ref v1), some (.ref v2), some (.ref v3), some (.ref v4), some (.int v5), none, none, none]) rfl ?_
        exact h
      · have h := h.2 c27
        refine EV.iconst 2280 rfl dL_law_2279 (v := 0) (by decide) ?_
        exact EV.zret rfl rfl dL_law_2280 h
  · have h := h.2 c21
    refine EV.iconst 2263 rfl dL_law_2262 (v := 0) (by decide) ?_
    exact EV.zret rfl rfl dL_law_2263 h
theorem gL_law_2284 {Γ : Gm} {d : Nat} {σ : AH} {Q : Oc → AH → Prop} {v0 : Nat} {v1 : Nat} {v2 : Nat} {v3 : Nat} {v4 : Nat} {v5 : Int32} (h : ∃ n2 : Nat, hs σ v0 = some (28, n2) ∧ ∃ j3 : Nat, IX (v5 + 1) n2 j3 ∧ ∃ j5 : Nat, IX (v5 + 2) n2 j5 ∧ CI Γ d ML_indexOf [.ref v1, .int (gi σ v0 j3), .int (gi σ v0 j5), .ref v3] σ (fun r8 σ7 => ∃ n10 : Nat, hs σ7 v0 = some (28, n10) ∧ ∃ j11 : Nat, IX (v5 + 1) n10 j11 ∧ ∃ j13 : Nat, IX (v5 + 2) n10 j13 ∧ hs σ7 v2 = some (7, 27) ∧ CI Γ d MX9_indexOf [.ref v2, .int (gi σ7 v0 j11), .int (gi σ7 v0 j13)] σ7 (fun r16 σ15 => hs σ15 v2 = some (7, 27) ∧ CI Γ d MX9_thrown [.ref v2] σ15 (fun r19 σ18 => ((r19 = r8 → ((r8 ≠ 0 → EV Γ ML_law d 2703 [some (.ref v0), some (.ref v1), some (.ref v2), some (.ref v3), some (.ref v4), some (.int v5), none, none, none] [] σ18 Q) ∧ (r8 = 0 → ∃ n24 : Nat, hs σ18 v3 = some (23, n24) ∧ ∃ j25 : Nat, IX 0 n24 j25 ∧ (((lg_cmp (gj σ18 v3 j25) (Int32.toInt64 r16)) = 0 → EV Γ ML_law d 2703 [some (.ref v0), some (.ref v1), some (.ref v2), some (.ref v3), some (.ref v4), some (.int v5), none, none, none] [] σ18 Q) ∧ (¬ (lg_cmp (gj σ18 v3 j25) (Int32.toInt64 r16)) = 0 → Q (.inl (some (.int 0))) σ18))))) ∧ (¬ r19 = r8 → Q (.inl (some (.int 0))) σ18))) (fun E σ18 => Q (.inr E) σ18)) (fun E σ15 => Q (.inr E) σ15)) (fun _ _ => False)) : EV Γ ML_law d 2284 [some (.ref v0), some (.ref v1), some (.ref v2), some (.ref v3), some (.ref v4), some (.int v5), none, none, none] [] σ Q := by
  refine EV.aload_n 2285 rfl 1 rfl rfl dL_law_2284 ?_
  refine EV.aload_n 2286 rfl 0 rfl rfl dL_law_2285 ?_
  refine EV.iload 2288 rfl rfl dL_law_2286 ?_
  refine EV.iconst 2289 rfl dL_law_2288 (v := 1) (by decide) ?_
  refine EV.iadd 2290 rfl dL_law_2289 ?_
  obtain ⟨n2, w1, h⟩ := h
  obtain ⟨j3, x4, h⟩ := h
  refine EV.ialdS 2291 rfl dL_law_2290 w1 x4 ?_
  refine EV.aload_n 2292 rfl 0 rfl rfl dL_law_2291 ?_
  refine EV.iload 2294 rfl rfl dL_law_2292 ?_
  refine EV.iconst 2295 rfl dL_law_2294 (v := 2) (by decide) ?_
  refine EV.iadd 2296 rfl dL_law_2295 ?_
  obtain ⟨j5, x6, h⟩ := h
  refine EV.ialdS 2297 rfl dL_law_2296 w1 x6 ?_
  refine EV.aload_n 2298 rfl 3 rfl rfl dL_law_2297 ?_
  refine EV.cSW rfl lk_L_256 rfl (vs := [.ref v1, .int (gi σ v0 j3), .int (gi σ v0 j5), .ref v3]) (st := []) rfl rfl (Nat.le_of_ble_eq_true rfl) dL_law_2298 h (fun v σ7 h => ?_)
  obtain ⟨r8, rfl, h⟩ := h
  show EV Γ ML_law d 2301 [some (.ref v0), some (.ref v1), some (.ref v2), some (.ref v3), some (.ref v4), some (.int v5), none, none, none] [.int r8] σ7 Q
  refine EV.istore 2303 rfl [some (.ref v0), some (.ref v1), some (.ref v2), some (.ref v3), some (.ref v4), some (.int v5), some (.int r8), none, none] (by decide) rfl dL_law_2301 ?_
  refine EV.aload_n 2304 rfl 2 rfl rfl dL_law_2303 ?_
  refine EV.aload_n 2305 rfl 0 rfl rfl dL_law_2304 ?_
  refine EV.iload 2307 rfl rfl dL_law_2305 ?_
  refine EV.iconst 2308 rfl dL_law_2307 (v := 1) (by decide) ?_
  refine EV.iadd 2309 rfl dL_law_2308 ?_
  obtain ⟨n10, w9, h⟩ := h
  obtain ⟨j11, x12, h⟩ := h
  refine EV.ialdS 2310 rfl dL_law_2309 w9 x12 ?_
  refine EV.aload_n 2311 rfl 0 rfl rfl dL_law_2310 ?_
  refine EV.iload 2313 rfl rfl dL_law_2311 ?_
  refine EV.iconst 2314 rfl dL_law_2313 (v := 2) (by decide) ?_
  refine EV.iadd 2315 rfl dL_law_2314 ?_
  obtain ⟨j13, x14, h⟩ := h
  refine EV.ialdS 2316 rfl dL_law_2315 w9 x14 ?_
  obtain ⟨w17, h⟩ := h
  refine EV.cV rfl rfl lk_L_258 rfl (vs := [.int (gi σ7 v0 j11), .int (gi σ7 v0 j13)]) (st := []) rfl rfl (Nat.le_of_ble_eq_true rfl) dL_law_2316 w17 h (fun v σ15 h => ?_)
  obtain ⟨r16, rfl, h⟩ := h
  show EV Γ ML_law d 2319 [some (.ref v0), some (.ref v1), some (.ref v2), some (.ref v3), some (.ref v4), some (.int v5), some (.int r8), none, none] [.int r16] σ15 Q
  refine EV.istore 2321 rfl [some (.ref v0), some (.ref v1), some (.ref v2), some (.ref v3), some (.ref v4), some (.int v5), some (.int r8), some (.int r16), none] (by decide) rfl dL_law_2319 ?_
  refine EV.aload_n 2322 rfl 2 rfl rfl dL_law_2321 ?_
  obtain ⟨w20, h⟩ := h
  refine EV.cV rfl rfl lk_L_147 rfl (vs := []) (st := []) rfl rfl (Nat.le_of_ble_eq_true rfl) dL_law_2322 w20 h (fun v σ18 h => ?_)
  obtain ⟨r19, rfl, h⟩ := h
  show EV Γ ML_law d 2325 [some (.ref v0), some (.ref v1), some (.ref v2), some (.ref v3), some (.ref v4), some (.int v5), some (.int r8), some (.int r16), none] [.int r19] σ18 Q
  refine EV.iload 2327 rfl rfl dL_law_2325 ?_
  refine EV.icmp_eq 2330 2332 rfl (by decide) dL_law_2327 (fun c21 => ?_) (fun c21 => ?_)
  · have h := h.1 c21
    refine EV.iload 2334 rfl rfl dL_law_2332 ?_
    refine EV.if_ne 2337 2349 rfl (by decide) dL_law_2334 (fun c22 => ?_) (fun c22 => ?_)
    · have h := h.1 c22
      refine EV.goto 2703 (by decide) dL_law_2349 ?_
      refine EV.mask [true, true, true, true, true, true, false, false, false] (L' := [some (.ref v0), some (.ref v1), some (.ref v2), some (.ref v3), some (.ref v4), some (.int v5), none, none, none]) rfl ?_
      exact h
    · have h := h.2 c22
      refine EV.aload_n 2338 rfl 3 rfl rfl dL_law_2337 ?_
      refine EV.iconst 2339 rfl dL_law_2338 (v := 0) (by decide) ?_
      obtain ⟨n24, w23, h⟩ := h
      obtain ⟨j25, x26, h⟩ := h
      refine EV.lald 2340 rfl dL_law_2339 w23 x26 ?_
      refine EV.iload 2342 rfl rfl dL_law_2340 ?_
      refine EV.i2l 2343 rfl dL_law_2342 ?_
      refine EV.lcmp 2344 rfl dL_law_2343 ?_
      refine EV.if_eq 2347 2349 rfl (by decide) dL_law_2344 (fun c27 => ?_) (fun c27 => ?_)
      · have h := h.1 c27
        refine EV.goto 2703 (by decide) dL_law_2349 ?_
        refine EV.mask [true, true, true, true, true, true, false, false, false] (L' := [some (.ref v0), some (.ref v1), some (.ref v2), some (.ref v3), some (.ref v4), some (.int v5), none, none, none]) rfl ?_
        exact h
      · have h := h.2 c27
        refine EV.iconst 2348 rfl dL_law_2347 (v := 0) (by decide) ?_
        exact EV.zret rfl rfl dL_law_2348 h
  · have h := h.2 c21
    refine EV.iconst 2331 rfl dL_law_2330 (v := 0) (by decide) ?_
    exact EV.zret rfl rfl dL_law_2331 h
theorem gL_law_2352 {Γ : Gm} {d : Nat} {σ : AH} {Q : Oc → AH → Prop} {v0 : Nat} {v1 : Nat} {v2 : Nat} {v3 : Nat} {v4 : Nat} {v5 : Int32} (h : ∃ n2 : Nat, hs σ v0 = some (28, n2) ∧ ∃ j3 : Nat, IX (v5 + 1) n2 j3 ∧ ∃ j5 : Nat, IX (v5 + 2) n2 j5 ∧ CI Γ d ML_setCost [.ref v1, .int (gi σ v0 j3), .int (gi σ v0 j5), .ref v3] σ (fun r8 σ7 => ∃ n10 : Nat, hs σ7 v0 = some (28, n10) ∧ ∃ j11 : Nat, IX (v5 + 1) n10 j11 ∧ ∃ j13 : Nat, IX (v5 + 2) n10 j13 ∧ hs σ7 v2 = some (7, 27) ∧ CI Γ d MX9_setCost [.ref v2, .int (gi σ7 v0 j11), .int (gi σ7 v0 j13)] σ7 (fun r16 σ15 => hs σ15 v2 = some (7, 27) ∧ CI Γ d MX9_thrown [.ref v2] σ15 (fun r19 σ18 => ((r19 = r8 → ((r8 ≠ 0 → EV Γ ML_law d 2703 [some (.ref v0), some (.ref v1), some (.ref v2), some (.ref v3), some (.ref v4), some (.int v5), none, none, none] [] σ18 Q) ∧ (r8 = 0 → ∃ n24 : Nat, hs σ18 v3 = some (23, n24) ∧ ∃ j25 : Nat, IX 0 n24 j25 ∧ (((lg_cmp (gj σ18 v3 j25) (Int32.toInt64 r16)) = 0 → EV Γ ML_law d 2703 [some (.ref v0), some (.ref v1), some (.ref v2), some (.ref v3), some (.ref v4), some (.int v5), none, none, none] [] σ18 Q) ∧ (¬ (lg_cmp (gj σ18 v3 j25) (Int32.toInt64 r16)) = 0 → Q (.inl (some (.int 0))) σ18))))) ∧ (¬ r19 = r8 → Q (.inl (some (.int 0))) σ18))) (fun E σ18 => Q (.inr E) σ18)) (fun E σ15 => Q (.inr E) σ15)) (fun _ _ => False)) : EV Γ ML_law d 2352 [some (.ref v0), some (.ref v1), some (.ref v2), some (.ref v3), some (.ref v4), some (.int v5), none, none, none] [] σ Q := by
  refine EV.aload_n 2353 rfl 1 rfl rfl dL_law_2352 ?_
  refine EV.aload_n 2354 rfl 0 rfl rfl dL_law_2353 ?_
  refine EV.iload 2356 rfl rfl dL_law_2354 ?_
  refine EV.iconst 2357 rfl dL_law_2356 (v := 1) (by decide) ?_
  refine EV.iadd 2358 rfl dL_law_2357 ?_
  obtain ⟨n2, w1, h⟩ := h
  obtain ⟨j3, x4, h⟩ := h
  refine EV.ialdS 2359 rfl dL_law_2358 w1 x4 ?_
  refine EV.aload_n 2360 rfl 0 rfl rfl dL_law_2359 ?_
  refine EV.iload 2362 rfl rfl dL_law_2360 ?_
  refine EV.iconst 2363 rfl dL_law_2362 (v := 2) (by decide) ?_
  refine EV.iadd 2364 rfl dL_law_2363 ?_
  obtain ⟨j5, x6, h⟩ := h
  refine EV.ialdS 2365 rfl dL_law_2364 w1 x6 ?_
  refine EV.aload_n 2366 rfl 3 rfl rfl dL_law_2365 ?_
  refine EV.cSW rfl lk_L_259 rfl (vs := [.ref v1, .int (gi σ v0 j3), .int (gi σ v0 j5), .ref v3]) (st := []) rfl rfl (Nat.le_of_ble_eq_true rfl) dL_law_2366 h (fun v σ7 h => ?_)
  obtain ⟨r8, rfl, h⟩ := h
  show EV Γ ML_law d 2369 [some (.ref v0), some (.ref v1), some (.ref v2), some (.ref v3), some (.ref v4), some (.int v5), none, none, none] [.int r8] σ7 Q
  refine EV.istore 2371 rfl [some (.ref v0), some (.ref v1), some (.ref v2), some (.ref v3), some (.ref v4), some (.int v5), some (.int r8), none, none] (by decide) rfl dL_law_2369 ?_
  refine EV.aload_n 2372 rfl 2 rfl rfl dL_law_2371 ?_
  refine EV.aload_n 2373 rfl 0 rfl rfl dL_law_2372 ?_
  refine EV.iload 2375 rfl rfl dL_law_2373 ?_
  refine EV.iconst 2376 rfl dL_law_2375 (v := 1) (by decide) ?_
  refine EV.iadd 2377 rfl dL_law_2376 ?_
  obtain ⟨n10, w9, h⟩ := h
  obtain ⟨j11, x12, h⟩ := h
  refine EV.ialdS 2378 rfl dL_law_2377 w9 x12 ?_
  refine EV.aload_n 2379 rfl 0 rfl rfl dL_law_2378 ?_
  refine EV.iload 2381 rfl rfl dL_law_2379 ?_
  refine EV.iconst 2382 rfl dL_law_2381 (v := 2) (by decide) ?_
  refine EV.iadd 2383 rfl dL_law_2382 ?_
  obtain ⟨j13, x14, h⟩ := h
  refine EV.ialdS 2384 rfl dL_law_2383 w9 x14 ?_
  obtain ⟨w17, h⟩ := h
  refine EV.cV rfl rfl lk_L_261 rfl (vs := [.int (gi σ7 v0 j11), .int (gi σ7 v0 j13)]) (st := []) rfl rfl (Nat.le_of_ble_eq_true rfl) dL_law_2384 w17 h (fun v σ15 h => ?_)
  obtain ⟨r16, rfl, h⟩ := h
  show EV Γ ML_law d 2387 [some (.ref v0), some (.ref v1), some (.ref v2), some (.ref v3), some (.ref v4), some (.int v5), some (.int r8), none, none] [.int r16] σ15 Q
  refine EV.istore 2389 rfl [some (.ref v0), some (.ref v1), some (.ref v2), some (.ref v3), some (.ref v4), some (.int v5), some (.int r8), some (.int r16), none] (by decide) rfl dL_law_2387 ?_
  refine EV.aload_n 2390 rfl 2 rfl rfl dL_law_2389 ?_
  obtain ⟨w20, h⟩ := h
  refine EV.cV rfl rfl lk_L_147 rfl (vs := []) (st := []) rfl rfl (Nat.le_of_ble_eq_true rfl) dL_law_2390 w20 h (fun v σ18 h => ?_)
  obtain ⟨r19, rfl, h⟩ := h
  show EV Γ ML_law d 2393 [some (.ref v0), some (.ref v1), some (.ref v2), some (.ref v3), some (.ref v4), some (.int v5), some (.int r8), some (.int r16), none] [.int r19] σ18 Q
  refine EV.iload 2395 rfl rfl dL_law_2393 ?_
  refine EV.icmp_eq 2398 2400 rfl (by decide) dL_law_2395 (fun c21 => ?_) (fun c21 => ?_)
  · have h := h.1 c21
    refine EV.iload 2402 rfl rfl dL_law_2400 ?_
    refine EV.if_ne 2405 2417 rfl (by decide) dL_law_2402 (fun c22 => ?_) (fun c22 => ?_)
    · have h := h.1 c22
      refine EV.goto 2703 (by decide) dL_law_2417 ?_
      refine EV.mask [true, true, true, true, true, true, false, false, false] (L' := [some (.ref v0), some (.ref v1), some (.ref v2), some (.ref v3), some (.ref v4), some (.int v5), none, none, none]) rfl ?_
      exact h
    · have h := h.2 c22
      refine EV.aload_n 2406 rfl 3 rfl rfl dL_law_2405 ?_
      refine EV.iconst 2407 rfl dL_law_2406 (v := 0) (by decide) ?_
      obtain ⟨n24, w23, h⟩ := h
      obtain ⟨j25, x26, h⟩ := h
      refine EV.lald 2408 rfl dL_law_2407 w23 x26 ?_
      refine EV.iload 2410 rfl rfl dL_law_2408 ?_
      refine EV.i2l 2411 rfl dL_law_2410 ?_
      refine EV.lcmp 2412 rfl dL_law_2411 ?_
      refine EV.if_eq 2415 2417 rfl (by decide) dL_law_2412 (fun c27 => ?_) (fun c27 => ?_)
      · have h := h.1 c27
        refine EV.goto 2703 (by decide) dL_law_2417 ?_
        refine EV.mask [true, true, true, true, true, true, false, false, false] (L' := [some (.ref v0), some (.ref v1), some (.ref v2), some (.ref v3), some (.ref v4), some (.int v5), none, none, none]) rfl ?_
        exact h
      · have h := h.2 c27
        refine EV.iconst 2416 rfl dL_law_2415 (v := 0) (by decide) ?_
        exact EV.zret rfl rfl dL_law_2416 h
  · have h := h.2 c21
    refine EV.iconst 2399 rfl dL_law_2398 (v := 0) (by decide) ?_
    exact EV.zret rfl rfl dL_law_2399 h
theorem gL_law_2420 {Γ : Gm} {d : Nat} {σ : AH} {Q : Oc → AH → Prop} {v0 : Nat} {v1 : Nat} {v2 : Nat} {v3 : Nat} {v4 : Nat} {v5 : Int32} (h : ∃ n2 : Nat, hs σ v0 = some (28, n2) ∧ ∃ j3 : Nat, IX (v5 + 1) n2 j3 ∧ CI Γ d ML_leastCost [.ref v1, .int (gi σ v0 j3), .ref v3] σ (fun r6 σ5 => ∃ n8 : Nat, hs σ5 v0 = some (28, n8) ∧ ∃ j9 : Nat, IX (v5 + 1) n8 j9 ∧ hs σ5 v2 = some (7, 27) ∧ CI Γ d MX9_leastCost [.ref v2, .int (gi σ5 v0 j9)] σ5 (fun r12 σ11 => hs σ11 v2 = some (7, 27) ∧ CI Γ d MX9_thrown [.ref v2] σ11 (fun r15 σ14 => ((r15 = r6 → ((r6 ≠ 0 → EV Γ ML_law d 2703 [some (.ref v0), some (.ref v1), some (.ref v2), some (.ref v3), some (.ref v4), some (.int v5), none, none, none] [] σ14 Q) ∧ (r6 = 0 → ∃ n20 : Nat, hs σ14 v3 = some (23, n20) ∧ ∃ j21 : Nat, IX 0 n20 j21 ∧ (((lg_cmp (gj σ14 v3 j21) (Int32.toInt64 r12)) = 0 → EV Γ ML_law d 2703 [some (.ref v0), some (.ref v1), some (.ref v2), some (.ref v3), some (.ref v4), some (.int v5), none, none, none] [] σ14 Q) ∧ (¬ (lg_cmp (gj σ14 v3 j21) (Int32.toInt64 r12)) = 0 → Q (.inl (some (.int 0))) σ14))))) ∧ (¬ r15 = r6 → Q (.inl (some (.int 0))) σ14))) (fun E σ14 => Q (.inr E) σ14)) (fun E σ11 => Q (.inr E) σ11)) (fun _ _ => False)) : EV Γ ML_law d 2420 [some (.ref v0), some (.ref v1), some (.ref v2), some (.ref v3), some (.ref v4), some (.int v5), none, none, none] [] σ Q := by
  refine EV.aload_n 2421 rfl 1 rfl rfl dL_law_2420 ?_
  refine EV.aload_n 2422 rfl 0 rfl rfl dL_law_2421 ?_
  refine EV.iload 2424 rfl rfl dL_law_2422 ?_
  refine EV.iconst 2425 rfl dL_law_2424 (v := 1) (by decide) ?_
  refine EV.iadd 2426 rfl dL_law_2425 ?_
  obtain ⟨n2, w1, h⟩ := h
  obtain ⟨j3, x4, h⟩ := h
  refine EV.ialdS 2427 rfl dL_law_2426 w1 x4 ?_
  refine EV.aload_n 2428 rfl 3 rfl rfl dL_law_2427 ?_
  refine EV.cSW rfl lk_L_262 rfl (vs := [.ref v1, .int (gi σ v0 j3), .ref v3]) (st := []) rfl rfl (Nat.le_of_ble_eq_true rfl) dL_law_2428 h (fun v σ5 h => ?_)
  obtain ⟨r6, rfl, h⟩ := h
  show EV Γ ML_law d 2431 [some (.ref v0), some (.ref v1), some (.ref v2), some (.ref v3), some (.ref v4), some (.int v5), none, none, none] [.int r6] σ5 Q
  refine EV.istore 2433 rfl [some (.ref v0), some (.ref v1), some (.ref v2), some (.ref v3), some (.ref v4), some (.int v5), some (.int r6), none, none] (by decide) rfl dL_law_2431 ?_
  refine EV.aload_n 2434 rfl 2 rfl rfl dL_law_2433 ?_
  refine EV.aload_n 2435 rfl 0 rfl rfl dL_law_2434 ?_
  refine EV.iload 2437 rfl rfl dL_law_2435 ?_
  refine EV.iconst 2438 rfl dL_law_2437 (v := 1) (by decide) ?_
  refine EV.iadd 2439 rfl dL_law_2438 ?_
  obtain ⟨n8, w7, h⟩ := h
  obtain ⟨j9, x10, h⟩ := h
  refine EV.ialdS 2440 rfl dL_law_2439 w7 x10 ?_
  obtain ⟨w13, h⟩ := h
  refine EV.cV rfl rfl lk_L_264 rfl (vs := [.int (gi σ5 v0 j9)]) (st := []) rfl rfl (Nat.le_of_ble_eq_true rfl) dL_law_2440 w13 h (fun v σ11 h => ?_)
  obtain ⟨r12, rfl, h⟩ := h
  show EV Γ ML_law d 2443 [some (.ref v0), some (.ref v1), some (.ref v2), some (.ref v3), some (.ref v4), some (.int v5), some (.int r6), none, none] [.int r12] σ11 Q
  refine EV.istore 2445 rfl [some (.ref v0), some (.ref v1), some (.ref v2), some (.ref v3), some (.ref v4), some (.int v5), some (.int r6), some (.int r12), none] (by decide) rfl dL_law_2443 ?_
  refine EV.aload_n 2446 rfl 2 rfl rfl dL_law_2445 ?_
  obtain ⟨w16, h⟩ := h
  refine EV.cV rfl rfl lk_L_147 rfl (vs := []) (st := []) rfl rfl (Nat.le_of_ble_eq_true rfl) dL_law_2446 w16 h (fun v σ14 h => ?_)
  obtain ⟨r15, rfl, h⟩ := h
  show EV Γ ML_law d 2449 [some (.ref v0), some (.ref v1), some (.ref v2), some (.ref v3), some (.ref v4), some (.int v5), some (.int r6), some (.int r12), none] [.int r15] σ14 Q
  refine EV.iload 2451 rfl rfl dL_law_2449 ?_
  refine EV.icmp_eq 2454 2456 rfl (by decide) dL_law_2451 (fun c17 => ?_) (fun c17 => ?_)
  · have h := h.1 c17
    refine EV.iload 2458 rfl rfl dL_law_2456 ?_
    refine EV.if_ne 2461 2473 rfl (by decide) dL_law_2458 (fun c18 => ?_) (fun c18 => ?_)
    · have h := h.1 c18
      refine EV.goto 2703 (by decide) dL_law_2473 ?_
      refine EV.mask [true, true, true, true, true, true, false, false, false] (L' := [some (.ref v0), some (.ref v1), some (.ref v2), some (.ref v3), some (.ref v4), some (.int v5), none, none, none]) rfl ?_
      exact h
    · have h := h.2 c18
      refine EV.aload_n 2462 rfl 3 rfl rfl dL_law_2461 ?_
      refine EV.iconst 2463 rfl dL_law_2462 (v := 0) (by decide) ?_
      obtain ⟨n20, w19, h⟩ := h
      obtain ⟨j21, x22, h⟩ := h
      refine EV.lald 2464 rfl dL_law_2463 w19 x22 ?_
      refine EV.iload 2466 rfl rfl dL_law_2464 ?_
      refine EV.i2l 2467 rfl dL_law_2466 ?_
      refine EV.lcmp 2468 rfl dL_law_2467 ?_
      refine EV.if_eq 2471 2473 rfl (by decide) dL_law_2468 (fun c23 => ?_) (fun c23 => ?_)
      · have h := h.1 c23
        refine EV.goto 2703 (by decide) dL_law_2473 ?_
        refine EV.mask [true, true, true, true, true, true, false, false, false] (L' := [some (.ref v0), some (.ref v1), some (.ref v2), some (.ref v3), some (.ref v4), some (.int v5), none, none, none]) rfl ?_
        exact h
      · have h := h.2 c23
        refine EV.iconst 2472 rfl dL_law_2471 (v := 0) (by decide) ?_
        exact EV.zret rfl rfl dL_law_2472 h
  · have h := h.2 c17
    refine EV.iconst 2455 rfl dL_law_2454 (v := 0) (by decide) ?_
    exact EV.zret rfl rfl dL_law_2455 h
theorem gL_law_2476 {Γ : Gm} {d : Nat} {σ : AH} {Q : Oc → AH → Prop} {v0 : Nat} {v1 : Nat} {v2 : Nat} {v3 : Nat} {v4 : Nat} {v5 : Int32} (h : ∃ n2 : Nat, hs σ v0 = some (28, n2) ∧ ∃ j3 : Nat, IX (v5 + 1) n2 j3 ∧ CI Γ d ML_meanCost [.ref v1, .int (gi σ v0 j3), .ref v4] σ (fun r6 σ5 => ∃ n8 : Nat, hs σ5 v0 = some (28, n8) ∧ ∃ j9 : Nat, IX (v5 + 1) n8 j9 ∧ hs σ5 v2 = some (7, 27) ∧ CD Γ d MX9_meanCost [.ref v2, .int (gi σ5 v0 j9)] σ5 (fun r12 σ11 => hs σ11 v2 = some (7, 27) ∧ CI Γ d MX9_thrown [.ref v2] σ11 (fun r15 σ14 => ((r15 = r6 → ((r6 ≠ 0 → EV Γ ML_law d 2703 [some (.ref v0), some (.ref v1), some (.ref v2), some (.ref v3), some (.ref v4), some (.int v5), none, none, none] [] σ14 Q) ∧ (r6 = 0 → ∃ n20 : Nat, hs σ14 v4 = some (24, n20) ∧ ∃ j21 : Nat, IX 0 n20 j21 ∧ (((Op.cmpValue (FP.dcmp (gd σ14 v4 j21) r12) .l) = 0 → EV Γ ML_law d 2703 [some (.ref v0), some (.ref v1), some (.ref v2), some (.ref v3), some (.ref v4), some (.int v5), none, none, none] [] σ14 Q) ∧ (¬ (Op.cmpValue (FP.dcmp (gd σ14 v4 j21) r12) .l) = 0 → (((Op.cmpValue (FP.dcmp (gd σ14 v4 j21) (gd σ14 v4 j21)) .l) = 0 → Q (.inl (some (.int 0))) σ14) ∧ (¬ (Op.cmpValue (FP.dcmp (gd σ14 v4 j21) (gd σ14 v4 j21)) .l) = 0 → (((Op.cmpValue (FP.dcmp r12 r12) .l) ≠ 0 → EV Γ ML_law d 2703 [some (.ref v0), some (.ref v1), some (.ref v2), some (.ref v3), some (.ref v4), some (.int v5), none, none, none] [] σ14 Q) ∧ ((Op.cmpValue (FP.dcmp r12 r12) .l) = 0 → Q (.inl (some (.int 0))) σ14))))))))) ∧ (¬ r15 = r6 → Q (.inl (some (.int 0))) σ14))) (fun E σ14 => Q (.inr E) σ14)) (fun E σ11 => Q (.inr E) σ11)) (fun _ _ => False)) : EV Γ ML_law d 2476 [some (.ref v0), some (.ref v1), some (.ref v2), some (.ref v3), some (.ref v4), some (.int v5), none, none, none] [] σ Q := by
  refine EV.aload_n 2477 rfl 1 rfl rfl dL_law_2476 ?_
  refine EV.aload_n 2478 rfl 0 rfl rfl dL_law_2477 ?_
  refine EV.iload 2480 rfl rfl dL_law_2478 ?_
  refine EV.iconst 2481 rfl dL_law_2480 (v := 1) (by decide) ?_
  refine EV.iadd 2482 rfl dL_law_2481 ?_
  obtain ⟨n2, w1, h⟩ := h
  obtain ⟨j3, x4, h⟩ := h
  refine EV.ialdS 2483 rfl dL_law_2482 w1 x4 ?_
  refine EV.aload 2485 rfl rfl dL_law_2483 ?_
  refine EV.cSW rfl lk_L_265 rfl (vs := [.ref v1, .int (gi σ v0 j3), .ref v4]) (st := []) rfl rfl (Nat.le_of_ble_eq_true rfl) dL_law_2485 h (fun v σ5 h => ?_)
  obtain ⟨r6, rfl, h⟩ := h
  show EV Γ ML_law d 2488 [some (.ref v0), some (.ref v1), some (.ref v2), some (.ref v3), some (.ref v4), some (.int v5), none, none, none] [.int r6] σ5 Q
  refine EV.istore 2490 rfl [some (.ref v0), some (.ref v1), some (.ref v2), some (.ref v3), some (.ref v4), some (.int v5), some (.int r6), none, none] (by decide) rfl dL_law_2488 ?_
  refine EV.aload_n 2491 rfl 2 rfl rfl dL_law_2490 ?_
  refine EV.aload_n 2492 rfl 0 rfl rfl dL_law_2491 ?_
  refine EV.iload 2494 rfl rfl dL_law_2492 ?_
  refine EV.iconst 2495 rfl dL_law_2494 (v := 1) (by decide) ?_
  refine EV.iadd 2496 rfl dL_law_2495 ?_
  obtain ⟨n8, w7, h⟩ := h
  obtain ⟨j9, x10, h⟩ := h
  refine EV.ialdS 2497 rfl dL_law_2496 w7 x10 ?_
  obtain ⟨w13, h⟩ := h
  refine EV.cV rfl rfl lk_L_268 rfl (vs := [.int (gi σ5 v0 j9)]) (st := []) rfl rfl (Nat.le_of_ble_eq_true rfl) dL_law_2497 w13 h (fun v σ11 h => ?_)
  obtain ⟨r12, rfl, h⟩ := h
  show EV Γ ML_law d 2500 [some (.ref v0), some (.ref v1), some (.ref v2), some (.ref v3), some (.ref v4), some (.int v5), some (.int r6), none, none] [.double r12] σ11 Q
  refine EV.dstore 2502 rfl [some (.ref v0), some (.ref v1), some (.ref v2), some (.ref v3), some (.ref v4), some (.int v5), some (.int r6), some (.double r12), none] (by decide) rfl dL_law_2500 ?_
  refine EV.aload_n 2503 rfl 2 rfl rfl dL_law_2502 ?_
  obtain ⟨w16, h⟩ := h
  refine EV.cV rfl rfl lk_L_147 rfl (vs := []) (st := []) rfl rfl (Nat.le_of_ble_eq_true rfl) dL_law_2503 w16 h (fun v σ14 h => ?_)
  obtain ⟨r15, rfl, h⟩ := h
  show EV Γ ML_law d 2506 [some (.ref v0), some (.ref v1), some (.ref v2), some (.ref v3), some (.ref v4), some (.int v5), some (.int r6), some (.double r12), none] [.int r15] σ14 Q
  refine EV.iload 2508 rfl rfl dL_law_2506 ?_
  refine EV.icmp_eq 2511 2513 rfl (by decide) dL_law_2508 (fun c17 => ?_) (fun c17 => ?_)
  · have h := h.1 c17
    refine EV.iload 2515 rfl rfl dL_law_2513 ?_
    refine EV.if_ne 2518 2550 rfl (by decide) dL_law_2515 (fun c18 => ?_) (fun c18 => ?_)
    · have h := h.1 c18
      refine EV.goto 2703 (by decide) dL_law_2550 ?_
      refine EV.mask [true, true, true, true, true, true, false, false, false] (L' := [some (.ref v0), some (.ref v1), some (.ref v2), some (.ref v3), some (.ref v4), some (.int v5), none, none, none]) rfl ?_
      exact h
    · have h := h.2 c18
      refine EV.aload 2520 rfl rfl dL_law_2518 ?_
      refine EV.iconst 2521 rfl dL_law_2520 (v := 0) (by decide) ?_
      obtain ⟨n20, w19, h⟩ := h
      obtain ⟨j21, x22, h⟩ := h
      refine EV.dald 2522 rfl dL_law_2521 w19 x22 ?_
      refine EV.dload 2524 rfl rfl dL_law_2522 ?_
      refine EV.dcmp 2525 rfl dL_law_2524 ?_
      refine EV.if_eq 2528 2550 rfl (by decide) dL_law_2525 (fun c23 => ?_) (fun c23 => ?_)
      · have h := h.1 c23
        refine EV.goto 2703 (by decide) dL_law_2550 ?_
        refine EV.mask [true, true, true, true, true, true, false, false, false] (L' := [some (.ref v0), some (.ref v1), some (.ref v2), some (.ref v3), some (.ref v4), some (.int v5), none, none, none]) rfl ?_
        exact h
      · have h := h.2 c23
        refine EV.aload 2530 rfl rfl dL_law_2528 ?_
        refine EV.iconst 2531 rfl dL_law_2530 (v := 0) (by decide) ?_
        refine EV.dald 2532 rfl dL_law_2531 w19 x22 ?_
        refine EV.aload 2534 rfl rfl dL_law_2532 ?_
        refine EV.iconst 2535 rfl dL_law_2534 (v := 0) (by decide) ?_
        refine EV.dald 2536 rfl dL_law_2535 w19 x22 ?_
        refine EV.dcmp 2537 rfl dL_law_2536 ?_
        refine EV.if_eq 2540 2548 rfl (by decide) dL_law_2537 (fun c24 => ?_) (fun c24 => ?_)
        · have h := h.1 c24
          refine EV.iconst 2549 rfl dL_law_2548 (v := 0) (by decide) ?_
          exact EV.zret rfl rfl dL_law_2549 h
        · have h := h.2 c24
          refine EV.dload 2542 rfl rfl dL_law_2540 ?_
          refine EV.dload 2544 rfl rfl dL_law_2542 ?_
          refine EV.dcmp 2545 rfl dL_law_2544 ?_
          refine EV.if_ne 2548 2550 rfl (by decide) dL_law_2545 (fun c25 => ?_) (fun c25 => ?_)
          · have h := h.1 c25
            refine EV.goto 2703 (by decide) dL_law_2550 ?_
            refine EV.mask [true, true, true, true, true, true, false, false, false] (L' := [some (.ref v0), some (.ref v1), some (.ref v2), some (.ref v3), some (.ref v4), some (.int v5), none, none, none]) rfl ?_
            exact h
          · have h := h.2 c25
            refine EV.iconst 2549 rfl dL_law_2548 (v := 0) (by decide) ?_
            exact EV.zret rfl rfl dL_law_2549 h
  · have h := h.2 c17
    refine EV.iconst 2512 rfl dL_law_2511 (v := 0) (by decide) ?_
    exact EV.zret rfl rfl dL_law_2512 h
theorem gL_law_2553 {Γ : Gm} {d : Nat} {σ : AH} {Q : Oc → AH → Prop} {v0 : Nat} {v1 : Nat} {v2 : Nat} {v3 : Nat} {v4 : Nat} {v5 : Int32} (h : ∃ n2 : Nat, hs σ v0 = some (28, n2) ∧ ∃ j3 : Nat, IX (v5 + 1) n2 j3 ∧ ∃ j5 : Nat, IX (v5 + 2) n2 j5 ∧ ∃ j7 : Nat, IX (v5 + 3) n2 j7 ∧ CI Γ d ML_enumerate [.ref v1, .int (gi σ v0 j3), .int (gi σ v0 j5), .int (gi σ v0 j7), .ref v3] σ (fun r10 σ9 => ∃ n12 : Nat, hs σ9 v0 = some (28, n12) ∧ ∃ j13 : Nat, IX (v5 + 1) n12 j13 ∧ ∃ j15 : Nat, IX (v5 + 2) n12 j15 ∧ ∃ j17 : Nat, IX (v5 + 3) n12 j17 ∧ hs σ9 v2 = some (7, 27) ∧ CI Γ d MX9_enumerate [.ref v2, .int (gi σ9 v0 j13), .int (gi σ9 v0 j15), .int (gi σ9 v0 j17)] σ9 (fun r20 σ19 => hs σ19 v2 = some (7, 27) ∧ CI Γ d MX9_thrown [.ref v2] σ19 (fun r23 σ22 => ((r23 = r10 → ((r10 ≠ 0 → EV Γ ML_law d 2703 [some (.ref v0), some (.ref v1), some (.ref v2), some (.ref v3), some (.ref v4), some (.int v5), none, none, none] [] σ22 Q) ∧ (r10 = 0 → ∃ n28 : Nat, hs σ22 v3 = some (23, n28) ∧ ∃ j29 : Nat, IX 0 n28 j29 ∧ (((lg_cmp (gj σ22 v3 j29) (Int32.toInt64 r20)) = 0 → EV Γ ML_law d 2703 [some (.ref v0), some (.ref v1), some (.ref v2), some (.ref v3), some (.ref v4), some (.int v5), none, none, none] [] σ22 Q) ∧ (¬ (lg_cmp (gj σ22 v3 j29) (Int32.toInt64 r20)) = 0 → Q (.inl (some (.int 0))) σ22))))) ∧ (¬ r23 = r10 → Q (.inl (some (.int 0))) σ22))) (fun E σ22 => Q (.inr E) σ22)) (fun E σ19 => Q (.inr E) σ19)) (fun _ _ => False)) : EV Γ ML_law d 2553 [some (.ref v0), some (.ref v1), some (.ref v2), some (.ref v3), some (.ref v4), some (.int v5), none, none, none] [] σ Q := by
  refine EV.aload_n 2554 rfl 1 rfl rfl dL_law_2553 ?_
  refine EV.aload_n 2555 rfl 0 rfl rfl dL_law_2554 ?_
  refine EV.iload 2557 rfl rfl dL_law_2555 ?_
  refine EV.iconst 2558 rfl dL_law_2557 (v := 1) (by decide) ?_
  refine EV.iadd 2559 rfl dL_law_2558 ?_
  obtain ⟨n2, w1, h⟩ := h
  obtain ⟨j3, x4, h⟩ := h
  refine EV.ialdS 2560 rfl dL_law_2559 w1 x4 ?_
  refine EV.aload_n 2561 rfl 0 rfl rfl dL_law_2560 ?_
  refine EV.iload 2563 rfl rfl dL_law_2561 ?_
  refine EV.iconst 2564 rfl dL_law_2563 (v := 2) (by decide) ?_
  refine EV.iadd 2565 rfl dL_law_2564 ?_
  obtain ⟨j5, x6, h⟩ := h
  refine EV.ialdS 2566 rfl dL_law_2565 w1 x6 ?_
  refine EV.aload_n 2567 rfl 0 rfl rfl dL_law_2566 ?_
  refine EV.iload 2569 rfl rfl dL_law_2567 ?_
  refine EV.iconst 2570 rfl dL_law_2569 (v := 3) (by decide) ?_
  refine EV.iadd 2571 rfl dL_law_2570 ?_
  obtain ⟨j7, x8, h⟩ := h
  refine EV.ialdS 2572 rfl dL_law_2571 w1 x8 ?_
  refine EV.aload_n 2573 rfl 3 rfl rfl dL_law_2572 ?_
  refine EV.cSW rfl lk_L_269 rfl (vs := [.ref v1, .int (gi σ v0 j3), .int (gi σ v0 j5), .int (gi σ v0 j7), .ref v3]) (st := []) rfl rfl (Nat.le_of_ble_eq_true rfl) dL_law_2573 h (fun v σ9 h => ?_)
  obtain ⟨r10, rfl, h⟩ := h
  show EV Γ ML_law d 2576 [some (.ref v0), some (.ref v1), some (.ref v2), some (.ref v3), some (.ref v4), some (.int v5), none, none, none] [.int r10] σ9 Q
  refine EV.istore 2578 rfl [some (.ref v0), some (.ref v1), some (.ref v2), some (.ref v3), some (.ref v4), some (.int v5), some (.int r10), none, none] (by decide) rfl dL_law_2576 ?_
  refine EV.aload_n 2579 rfl 2 rfl rfl dL_law_2578 ?_
  refine EV.aload_n 2580 rfl 0 rfl rfl dL_law_2579 ?_
  refine EV.iload 2582 rfl rfl dL_law_2580 ?_
  refine EV.iconst 2583 rfl dL_law_2582 (v := 1) (by decide) ?_
  refine EV.iadd 2584 rfl dL_law_2583 ?_
  obtain ⟨n12, w11, h⟩ := h
  obtain ⟨j13, x14, h⟩ := h
  refine EV.ialdS 2585 rfl dL_law_2584 w11 x14 ?_
  refine EV.aload_n 2586 rfl 0 rfl rfl dL_law_2585 ?_
  refine EV.iload 2588 rfl rfl dL_law_2586 ?_
  refine EV.iconst 2589 rfl dL_law_2588 (v := 2) (by decide) ?_
  refine EV.iadd 2590 rfl dL_law_2589 ?_
  obtain ⟨j15, x16, h⟩ := h
  refine EV.ialdS 2591 rfl dL_law_2590 w11 x16 ?_
  refine EV.aload_n 2592 rfl 0 rfl rfl dL_law_2591 ?_
  refine EV.iload 2594 rfl rfl dL_law_2592 ?_
  refine EV.iconst 2595 rfl dL_law_2594 (v := 3) (by decide) ?_
  refine EV.iadd 2596 rfl dL_law_2595 ?_
  obtain ⟨j17, x18, h⟩ := h
  refine EV.ialdS 2597 rfl dL_law_2596 w11 x18 ?_
  obtain ⟨w21, h⟩ := h
  refine EV.cV rfl rfl lk_L_271 rfl (vs := [.int (gi σ9 v0 j13), .int (gi σ9 v0 j15), .int (gi σ9 v0 j17)]) (st := []) rfl rfl (Nat.le_of_ble_eq_true rfl) dL_law_2597 w21 h (fun v σ19 h => ?_)
  obtain ⟨r20, rfl, h⟩ := h
  show EV Γ ML_law d 2600 [some (.ref v0), some (.ref v1), some (.ref v2), some (.ref v3), some (.ref v4), some (.int v5), some (.int r10), none, none] [.int r20] σ19 Q
  refine EV.istore 2602 rfl [some (.ref v0), some (.ref v1), some (.ref v2), some (.ref v3), some (.ref v4), some (.int v5), some (.int r10), some (.int r20), none] (by decide) rfl dL_law_2600 ?_
  refine EV.aload_n 2603 rfl 2 rfl rfl dL_law_2602 ?_
  obtain ⟨w24, h⟩ := h
  refine EV.cV rfl rfl lk_L_147 rfl (vs := []) (st := []) rfl rfl (Nat.le_of_ble_eq_true rfl) dL_law_2603 w24 h (fun v σ22 h => ?_)
  obtain ⟨r23, rfl, h⟩ := h
  show EV Γ ML_law d 2606 [some (.ref v0), some (.ref v1), some (.ref v2), some (.ref v3), some (.ref v4), some (.int v5), some (.int r10), some (.int r20), none] [.int r23] σ22 Q
  refine EV.iload 2608 rfl rfl dL_law_2606 ?_
  refine EV.icmp_eq 2611 2613 rfl (by decide) dL_law_2608 (fun c25 => ?_) (fun c25 => ?_)
  · have h := h.1 c25
    refine EV.iload 2615 rfl rfl dL_law_2613 ?_
    refine EV.if_ne 2618 2630 rfl (by decide) dL_law_2615 (fun c26 => ?_) (fun c26 => ?_)
    · have h := h.1 c26
      refine EV.goto 2703 (by decide) dL_law_2630 ?_
      refine EV.mask [true, true, true, true, true, true, false, false, false] (L' := [some (.ref v0), some (.ref v1), some (.ref v2), some (.ref v3), some (.ref v4), some (.int v5), none, none, none]) rfl ?_
      exact h
    · have h := h.2 c26
      refine EV.aload_n 2619 rfl 3 rfl rfl dL_law_2618 ?_
      refine EV.iconst 2620 rfl dL_law_2619 (v := 0) (by decide) ?_
      obtain ⟨n28, w27, h⟩ := h
      obtain ⟨j29, x30, h⟩ := h
      refine EV.lald 2621 rfl dL_law_2620 w27 x30 ?_
      refine EV.iload 2623 rfl rfl dL_law_2621 ?_
      refine EV.i2l 2624 rfl dL_law_2623 ?_
      refine EV.lcmp 2625 rfl dL_law_2624 ?_
      refine EV.if_eq 2628 2630 rfl (by decide) dL_law_2625 (fun c31 => ?_) (fun c31 => ?_)
      · have h := h.1 c31
        refine EV.goto 2703 (by decide) dL_law_2630 ?_
        refine EV.mask [true, true, true, true, true, true, false, false, false] (L' := [some (.ref v0), some (.ref v1), some (.ref v2), some (.ref v3), some (.ref v4), some (.int v5), none, none, none]) rfl ?_
        exact h
      · have h := h.2 c31
        refine EV.iconst 2629 rfl dL_law_2628 (v := 0) (by decide) ?_
        exact EV.zret rfl rfl dL_law_2629 h
  · have h := h.2 c25
    refine EV.iconst 2612 rfl dL_law_2611 (v := 0) (by decide) ?_
    exact EV.zret rfl rfl dL_law_2612 h
theorem gL_law_2633 {Γ : Gm} {d : Nat} {σ : AH} {Q : Oc → AH → Prop} {v0 : Nat} {v1 : Nat} {v2 : Nat} {v3 : Nat} {v4 : Nat} {v5 : Int32} (h : ∃ n2 : Nat, hs σ v0 = some (28, n2) ∧ ∃ j3 : Nat, IX (v5 + 1) n2 j3 ∧ CI Γ d ML_enumerated [.ref v1, .int (gi σ v0 j3), .ref v3] σ (fun r6 σ5 => ∃ n8 : Nat, hs σ5 v0 = some (28, n8) ∧ ∃ j9 : Nat, IX (v5 + 1) n8 j9 ∧ hs σ5 v2 = some (7, 27) ∧ CI Γ d MX9_enumerated [.ref v2, .int (gi σ5 v0 j9)] σ5 (fun r12 σ11 => hs σ11 v2 = some (7, 27) ∧ CI Γ d MX9_thrown [.ref v2] σ11 (fun r15 σ14 => ((r15 = r6 → ((r6 ≠ 0 → EV Γ ML_law d 2703 [some (.ref v0), some (.ref v1), some (.ref v2), some (.ref v3), some (.ref v4), some (.int v5), none, none, none] [] σ14 Q) ∧ (r6 = 0 → ∃ n20 : Nat, hs σ14 v3 = some (23, n20) ∧ ∃ j21 : Nat, IX 0 n20 j21 ∧ (((lg_cmp (gj σ14 v3 j21) (Int32.toInt64 r12)) = 0 → EV Γ ML_law d 2703 [some (.ref v0), some (.ref v1), some (.ref v2), some (.ref v3), some (.ref v4), some (.int v5), none, none, none] [] σ14 Q) ∧ (¬ (lg_cmp (gj σ14 v3 j21) (Int32.toInt64 r12)) = 0 → Q (.inl (some (.int 0))) σ14))))) ∧ (¬ r15 = r6 → Q (.inl (some (.int 0))) σ14))) (fun E σ14 => Q (.inr E) σ14)) (fun E σ11 => Q (.inr E) σ11)) (fun _ _ => False)) : EV Γ ML_law d 2633 [some (.ref v0), some (.ref v1), some (.ref v2), some (.ref v3), some (.ref v4), some (.int v5), none, none, none] [] σ Q := by
  refine EV.aload_n 2634 rfl 1 rfl rfl dL_law_2633 ?_
  refine EV.aload_n 2635 rfl 0 rfl rfl dL_law_2634 ?_
  refine EV.iload 2637 rfl rfl dL_law_2635 ?_
  refine EV.iconst 2638 rfl dL_law_2637 (v := 1) (by decide) ?_
  refine EV.iadd 2639 rfl dL_law_2638 ?_
  obtain ⟨n2, w1, h⟩ := h
  obtain ⟨j3, x4, h⟩ := h
  refine EV.ialdS 2640 rfl dL_law_2639 w1 x4 ?_
  refine EV.aload_n 2641 rfl 3 rfl rfl dL_law_2640 ?_
  refine EV.cSW rfl lk_L_272 rfl (vs := [.ref v1, .int (gi σ v0 j3), .ref v3]) (st := []) rfl rfl (Nat.le_of_ble_eq_true rfl) dL_law_2641 h (fun v σ5 h => ?_)
  obtain ⟨r6, rfl, h⟩ := h
  show EV Γ ML_law d 2644 [some (.ref v0), some (.ref v1), some (.ref v2), some (.ref v3), some (.ref v4), some (.int v5), none, none, none] [.int r6] σ5 Q
  refine EV.istore 2646 rfl [some (.ref v0), some (.ref v1), some (.ref v2), some (.ref v3), some (.ref v4), some (.int v5), some (.int r6), none, none] (by decide) rfl dL_law_2644 ?_
  refine EV.aload_n 2647 rfl 2 rfl rfl dL_law_2646 ?_
  refine EV.aload_n 2648 rfl 0 rfl rfl dL_law_2647 ?_
  refine EV.iload 2650 rfl rfl dL_law_2648 ?_
  refine EV.iconst 2651 rfl dL_law_2650 (v := 1) (by decide) ?_
  refine EV.iadd 2652 rfl dL_law_2651 ?_
  obtain ⟨n8, w7, h⟩ := h
  obtain ⟨j9, x10, h⟩ := h
  refine EV.ialdS 2653 rfl dL_law_2652 w7 x10 ?_
  obtain ⟨w13, h⟩ := h
  refine EV.cV rfl rfl lk_L_274 rfl (vs := [.int (gi σ5 v0 j9)]) (st := []) rfl rfl (Nat.le_of_ble_eq_true rfl) dL_law_2653 w13 h (fun v σ11 h => ?_)
  obtain ⟨r12, rfl, h⟩ := h
  show EV Γ ML_law d 2656 [some (.ref v0), some (.ref v1), some (.ref v2), some (.ref v3), some (.ref v4), some (.int v5), some (.int r6), none, none] [.int r12] σ11 Q
  refine EV.istore 2658 rfl [some (.ref v0), some (.ref v1), some (.ref v2), some (.ref v3), some (.ref v4), some (.int v5), some (.int r6), some (.int r12), none] (by decide) rfl dL_law_2656 ?_
  refine EV.aload_n 2659 rfl 2 rfl rfl dL_law_2658 ?_
  obtain ⟨w16, h⟩ := h
  refine EV.cV rfl rfl lk_L_147 rfl (vs := []) (st := []) rfl rfl (Nat.le_of_ble_eq_true rfl) dL_law_2659 w16 h (fun v σ14 h => ?_)
  obtain ⟨r15, rfl, h⟩ := h
  show EV Γ ML_law d 2662 [some (.ref v0), some (.ref v1), some (.ref v2), some (.ref v3), some (.ref v4), some (.int v5), some (.int r6), some (.int r12), none] [.int r15] σ14 Q
  refine EV.iload 2664 rfl rfl dL_law_2662 ?_
  refine EV.icmp_eq 2667 2669 rfl (by decide) dL_law_2664 (fun c17 => ?_) (fun c17 => ?_)
  · have h := h.1 c17
    refine EV.iload 2671 rfl rfl dL_law_2669 ?_
    refine EV.if_ne 2674 2686 rfl (by decide) dL_law_2671 (fun c18 => ?_) (fun c18 => ?_)
    · have h := h.1 c18
      refine EV.goto 2703 (by decide) dL_law_2686 ?_
      refine EV.mask [true, true, true, true, true, true, false, false, false] (L' := [some (.ref v0), some (.ref v1), some (.ref v2), some (.ref v3), some (.ref v4), some (.int v5), none, none, none]) rfl ?_
      exact h
    · have h := h.2 c18
      refine EV.aload_n 2675 rfl 3 rfl rfl dL_law_2674 ?_
      refine EV.iconst 2676 rfl dL_law_2675 (v := 0) (by decide) ?_
      obtain ⟨n20, w19, h⟩ := h
      obtain ⟨j21, x22, h⟩ := h
      refine EV.lald 2677 rfl dL_law_2676 w19 x22 ?_
      refine EV.iload 2679 rfl rfl dL_law_2677 ?_
      refine EV.i2l 2680 rfl dL_law_2679 ?_
      refine EV.lcmp 2681 rfl dL_law_2680 ?_
      refine EV.if_eq 2684 2686 rfl (by decide) dL_law_2681 (fun c23 => ?_) (fun c23 => ?_)
      · have h := h.1 c23
        refine EV.goto 2703 (by decide) dL_law_2686 ?_
        refine EV.mask [true, true, true, true, true, true, false, false, false] (L' := [some (.ref v0), some (.ref v1), some (.ref v2), some (.ref v3), some (.ref v4), some (.int v5), none, none, none]) rfl ?_
        exact h
      · have h := h.2 c23
        refine EV.iconst 2685 rfl dL_law_2684 (v := 0) (by decide) ?_
        exact EV.zret rfl rfl dL_law_2685 h
  · have h := h.2 c17
    refine EV.iconst 2668 rfl dL_law_2667 (v := 0) (by decide) ?_
    exact EV.zret rfl rfl dL_law_2668 h
theorem gL_law_2689 {Γ : Gm} {d : Nat} {σ : AH} {Q : Oc → AH → Prop} {v0 : Nat} {v1 : Nat} {v2 : Nat} {v3 : Nat} {v4 : Nat} {v5 : Int32} (h : hs σ v1 = some (6, 17) ∧ CJ Γ d MX8_digest [.ref v1] σ (fun r2 σ1 => hs σ1 v2 = some (7, 27) ∧ CJ Γ d MX9_digest [.ref v2] σ1 (fun r5 σ4 => (((lg_cmp r2 r5) = 0 → EV Γ ML_law d 2703 [some (.ref v0), some (.ref v1), some (.ref v2), some (.ref v3), some (.ref v4), some (.int v5), none, none, none] [] σ4 Q) ∧ (¬ (lg_cmp r2 r5) = 0 → Q (.inl (some (.int 0))) σ4))) (fun E σ4 => Q (.inr E) σ4)) (fun E σ1 => Q (.inr E) σ1)) : EV Γ ML_law d 2689 [some (.ref v0), some (.ref v1), some (.ref v2), some (.ref v3), some (.ref v4), some (.int v5), none, none, none] [] σ Q := by
  refine EV.aload_n 2690 rfl 1 rfl rfl dL_law_2689 ?_
  obtain ⟨w3, h⟩ := h
  refine EV.cV rfl rfl lk_L_275 rfl (vs := []) (st := []) rfl rfl (Nat.le_of_ble_eq_true rfl) dL_law_2690 w3 h (fun v σ1 h => ?_)
  obtain ⟨r2, rfl, h⟩ := h
  show EV Γ ML_law d 2693 [some (.ref v0), some (.ref v1), some (.ref v2), some (.ref v3), some (.ref v4), some (.int v5), none, none, none] [.long r2] σ1 Q
  refine EV.aload_n 2694 rfl 2 rfl rfl dL_law_2693 ?_
  obtain ⟨w6, h⟩ := h
  refine EV.cV rfl rfl lk_L_279 rfl (vs := []) (st := [.long r2]) rfl rfl (Nat.le_of_ble_eq_true rfl) dL_law_2694 w6 h (fun v σ4 h => ?_)
  obtain ⟨r5, rfl, h⟩ := h
  show EV Γ ML_law d 2697 [some (.ref v0), some (.ref v1), some (.ref v2), some (.ref v3), some (.ref v4), some (.int v5), none, none, none] [.long r5, .long r2] σ4 Q
  refine EV.lcmp 2698 rfl dL_law_2697 ?_
  refine EV.if_eq 2701 2703 rfl (by decide) dL_law_2698 (fun c7 => ?_) (fun c7 => ?_)
  · have h := h.1 c7
    exact h
  · have h := h.2 c7
    refine EV.iconst 2702 rfl dL_law_2701 (v := 0) (by decide) ?_
    exact EV.zret rfl rfl dL_law_2702 h
theorem gL_law_2703 {Γ : Gm} {d : Nat} {σ : AH} {Q : Oc → AH → Prop} {v0 : Nat} {v1 : Nat} {v2 : Nat} {v3 : Nat} {v4 : Nat} {v5 : Int32} (h : EV Γ ML_law d 28 [some (.ref v0), some (.ref v1), some (.ref v2), some (.ref v3), some (.ref v4), some (.int (v5 + 6)), none, none, none] [] σ Q) : EV Γ ML_law d 2703 [some (.ref v0), some (.ref v1), some (.ref v2), some (.ref v3), some (.ref v4), some (.int v5), none, none, none] [] σ Q := by
  refine EV.iinc 2706 rfl [some (.ref v0), some (.ref v1), some (.ref v2), some (.ref v3), some (.ref v4), some (.int (v5 + 6)), none, none, none] (v := 6) (by decide) (by decide) rfl rfl dL_law_2703 ?_
  refine EV.goto 28 (by decide) dL_law_2706 ?_
  exact h
