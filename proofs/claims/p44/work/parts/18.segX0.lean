theorem gX0_init_0 {Γ : Gm} {d : Nat} {σ : AH} {Q : Oc → AH → Prop} {v0 : Nat} {v1 : Nat} {v2 : Nat} (h : 1 ≤ d ∧ ∀ (q2 : Nat) (σ3 : AH), q2 = lo Γ + hc σ → σ3 = mk σ q2 23 64 → hs σ3 v0 = some (0, 4) ∧ ∀ σ6 : AH, σ6 = setR σ3 v0 2 (some q2) → ∀ (q10 : Nat) (σ11 : AH), q10 = lo Γ + hc σ6 → σ11 = mk σ6 q10 23 64 → hs σ11 v0 = some (0, 4) ∧ ∀ σ14 : AH, σ14 = setR σ11 v0 3 (some q10) → ∀ σ18 : AH, σ18 = setR σ14 v0 0 (some v1) → ∀ σ22 : AH, σ22 = setR σ18 v0 1 (some v2) → Q (.inl none) σ22) : EV Γ MX0_init d 0 [some (.ref v0), some (.ref v1), some (.ref v2)] [] σ Q := by
  refine EV.aload_n 1 rfl 0 rfl rfl dX0_init_0 ?_
  obtain ⟨z1, h⟩ := h
  refine EV.objInit 4 rfl oi_X0_3 z1 (Nat.le_of_ble_eq_true rfl) dX0_init_1 ?_
  refine EV.aload_n 5 rfl 0 rfl rfl dX0_init_4 ?_
  refine EV.bipush 7 rfl dX0_init_5 (v := 64) (by decide) ?_
  refine EV.newJ 9 rfl (n := 64) ac_long dX0_init_7 (by decide) (Nat.le_of_ble_eq_true rfl) (EV.nq (fun q2 σ3 eq2 eσ3 => ?_))
  have h := h q2 σ3 eq2 eσ3
  have w4 : hs σ3 q2 = some (23, 64) := by rw [eσ3]; exact up_same _ _ _
  obtain ⟨w5, h⟩ := h
  refine EV.putFR 12 rfl rfl ff_X0_9 rfl (by decide) dX0_init_9 w5 (EV.nm (fun σ6 e7 => ?_))
  have h := h σ6 e7
  have w8 := tr_hs (hs_setR_of e7) w4
  have w9 := tr_hs (hs_setR_of e7) w5
  refine EV.aload_n 13 rfl 0 rfl rfl dX0_init_12 ?_
  refine EV.bipush 15 rfl dX0_init_13 (v := 64) (by decide) ?_
  refine EV.newJ 17 rfl (n := 64) ac_long dX0_init_15 (by decide) (Nat.le_of_ble_eq_true rfl) (EV.nq (fun q10 σ11 eq10 eσ11 => ?_))
  have h := h q10 σ11 eq10 eσ11
  have w12 : hs σ11 q10 = some (23, 64) := by rw [eσ11]; exact up_same _ _ _
  obtain ⟨w13, h⟩ := h
  refine EV.putFR 20 rfl rfl ff_X0_15 rfl (by decide) dX0_init_17 w13 (EV.nm (fun σ14 e15 => ?_))
  have h := h σ14 e15
  have w16 := tr_hs (hs_setR_of e15) w12
  have w17 := tr_hs (hs_setR_of e15) w13
  refine EV.aload_n 21 rfl 0 rfl rfl dX0_init_20 ?_
  refine EV.aload_n 22 rfl 1 rfl rfl dX0_init_21 ?_
  refine EV.putFR 25 rfl rfl ff_X0_18 rfl (by decide) dX0_init_22 w17 (EV.nm (fun σ18 e19 => ?_))
  have h := h σ18 e19
  have w20 := tr_hs (hs_setR_of e19) w16
  have w21 := tr_hs (hs_setR_of e19) w17
  refine EV.aload_n 26 rfl 0 rfl rfl dX0_init_25 ?_
  refine EV.aload_n 27 rfl 2 rfl rfl dX0_init_26 ?_
  refine EV.putFR 30 rfl rfl ff_X0_22 rfl (by decide) dX0_init_27 w21 (EV.nm (fun σ22 e23 => ?_))
  have h := h σ22 e23
  have w24 := tr_hs (hs_setR_of e23) w20
  have w25 := tr_hs (hs_setR_of e23) w21
  exact EV.vret rfl dX0_init_30 h
theorem eX0_init {Γ : Gm} {d : Nat} {σ : AH} {Q : Oc → AH → Prop} {v0 : Nat} {v1 : Nat} {v2 : Nat} (h : 1 ≤ d ∧ ∀ (q2 : Nat) (σ3 : AH), q2 = lo Γ + hc σ → σ3 = mk σ q2 23 64 → hs σ3 v0 = some (0, 4) ∧ ∀ σ6 : AH, σ6 = setR σ3 v0 2 (some q2) → ∀ (q10 : Nat) (σ11 : AH), q10 = lo Γ + hc σ6 → σ11 = mk σ6 q10 23 64 → hs σ11 v0 = some (0, 4) ∧ ∀ σ14 : AH, σ14 = setR σ11 v0 3 (some q10) → ∀ σ18 : AH, σ18 = setR σ14 v0 0 (some v1) → ∀ σ22 : AH, σ22 = setR σ18 v0 1 (some v2) → Q (.inl none) σ22) : RUN Γ d MX0_init [.ref v0, .ref v1, .ref v2] σ Q :=
  EV.enter [some (.ref v0), some (.ref v1), some (.ref v2)] rfl (by decide +kernel) (Nat.le_of_ble_eq_true rfl) rfl (gX0_init_0 h)
theorem gX0_applyToOne_0 {Γ : Gm} {d : Nat} {σ : AH} {Q : Oc → AH → Prop} {v0 : Nat} {v1 : Int32} {v2 : Nat} (h : ((Int32.toInt v1 = 4 → hs σ v0 = some (0, 4) ∧ CV Γ d MX0_keepMaximal [.ref v0, .ref v2] σ (fun σ1 => Q (.inl none) σ1) (fun E σ1 => Q (.inr E) σ1)) ∧ (Int32.toInt v1 = 5 → hs σ v0 = some (0, 4) ∧ CV Γ d MX0_keepMinimal [.ref v0, .ref v2] σ (fun σ4 => Q (.inl none) σ4) (fun E σ4 => Q (.inr E) σ4)) ∧ (Int32.toInt v1 = 6 → hs σ v0 = some (0, 4) ∧ CV Γ d MX0_hit [.ref v0, .ref v2] σ (fun σ7 => Q (.inl none) σ7) (fun E σ7 => Q (.inr E) σ7)) ∧ (Int32.toInt v1 = 7 → CV Γ d MX7_lower [.ref v2] σ (fun σ10 => Q (.inl none) σ10) (fun _ _ => False)) ∧ (Int32.toInt v1 < 4 ∨ 7 < Int32.toInt v1 → Q (.inl none) σ))) : EV Γ MX0_applyToOne d 0 [some (.ref v0), some (.int v1), some (.ref v2)] [] σ Q := by
  refine EV.iload_n 1 rfl 1 rfl rfl dX0_applyToOne_0 ?_
  refine EV.tableswitch dX0_applyToOne_1 (fun j off c1 c2 ho => ?_) (fun j c1 c2 ho => ?_) (fun c1 => ?_)
  · match j, c1, ho with
    | 0, c1, ho =>
      cases ho
      refine ⟨32, rfl, ?_⟩
      have h := h.1 (by omega)
      refine EV.aload_n 33 rfl 0 rfl rfl dX0_applyToOne_32 ?_
      refine EV.aload_n 34 rfl 2 rfl rfl dX0_applyToOne_33 ?_
      obtain ⟨w3, h⟩ := h
      refine EV.cV rfl rfl lk_X0_25 rfl (vs := [.ref v2]) (st := []) rfl rfl (Nat.le_of_ble_eq_true rfl) dX0_applyToOne_34 w3 h (fun v σ1 h => ?_)
      obtain ⟨rfl, h⟩ := h
      show EV Γ MX0_applyToOne d 37 [some (.ref v0), some (.int v1), some (.ref v2)] [] σ1 Q
      refine EV.goto 63 (by decide) dX0_applyToOne_37 ?_
      exact EV.vret rfl dX0_applyToOne_63 h
    | 1, c1, ho =>
      cases ho
      refine ⟨40, rfl, ?_⟩
      have h := h.2.1 (by omega)
      refine EV.aload_n 41 rfl 0 rfl rfl dX0_applyToOne_40 ?_
      refine EV.aload_n 42 rfl 2 rfl rfl dX0_applyToOne_41 ?_
      obtain ⟨w6, h⟩ := h
      refine EV.cV rfl rfl lk_X0_29 rfl (vs := [.ref v2]) (st := []) rfl rfl (Nat.le_of_ble_eq_true rfl) dX0_applyToOne_42 w6 h (fun v σ4 h => ?_)
      obtain ⟨rfl, h⟩ := h
      show EV Γ MX0_applyToOne d 45 [some (.ref v0), some (.int v1), some (.ref v2)] [] σ4 Q
      refine EV.goto 63 (by decide) dX0_applyToOne_45 ?_
      exact EV.vret rfl dX0_applyToOne_63 h
    | 2, c1, ho =>
      cases ho
      refine ⟨48, rfl, ?_⟩
      have h := h.2.2.1 (by omega)
      refine EV.aload_n 49 rfl 0 rfl rfl dX0_applyToOne_48 ?_
      refine EV.aload_n 50 rfl 2 rfl rfl dX0_applyToOne_49 ?_
      obtain ⟨w9, h⟩ := h
      refine EV.cV rfl rfl lk_X0_32 rfl (vs := [.ref v2]) (st := []) rfl rfl (Nat.le_of_ble_eq_true rfl) dX0_applyToOne_50 w9 h (fun v σ7 h => ?_)
      obtain ⟨rfl, h⟩ := h
      show EV Γ MX0_applyToOne d 53 [some (.ref v0), some (.int v1), some (.ref v2)] [] σ7 Q
      refine EV.goto 63 (by decide) dX0_applyToOne_53 ?_
      exact EV.vret rfl dX0_applyToOne_63 h
    | 3, c1, ho =>
      cases ho
      refine ⟨56, rfl, ?_⟩
      have h := h.2.2.2.1 (by omega)
      refine EV.aload_n 57 rfl 2 rfl rfl dX0_applyToOne_56 ?_
      refine EV.cS rfl lk_X0_35 rfl (vs := [.ref v2]) (st := []) rfl rfl (Nat.le_of_ble_eq_true rfl) dX0_applyToOne_57 h (fun v σ10 h => ?_)
      obtain ⟨rfl, h⟩ := h
      show EV Γ MX0_applyToOne d 60 [some (.ref v0), some (.int v1), some (.ref v2)] [] σ10 Q
      refine EV.goto 63 (by decide) dX0_applyToOne_60 ?_
      exact EV.vret rfl dX0_applyToOne_63 h
    | j + 4, c1, ho => exact absurd c2 (by omega)
  · match j, c1, ho with
    | 0, c1, ho => cases ho
    | 1, c1, ho => cases ho
    | 2, c1, ho => cases ho
    | 3, c1, ho => cases ho
    | j + 4, c1, ho => exact absurd c2 (by omega)
  · refine ⟨63, rfl, ?_⟩
    have h := h.2.2.2.2 c1
    exact EV.vret rfl dX0_applyToOne_63 h
theorem eX0_applyToOne {Γ : Gm} {d : Nat} {σ : AH} {Q : Oc → AH → Prop} {v0 : Nat} {v1 : Int32} {v2 : Nat} (h : ((Int32.toInt v1 = 4 → hs σ v0 = some (0, 4) ∧ CV Γ d MX0_keepMaximal [.ref v0, .ref v2] σ (fun σ1 => Q (.inl none) σ1) (fun E σ1 => Q (.inr E) σ1)) ∧ (Int32.toInt v1 = 5 → hs σ v0 = some (0, 4) ∧ CV Γ d MX0_keepMinimal [.ref v0, .ref v2] σ (fun σ4 => Q (.inl none) σ4) (fun E σ4 => Q (.inr E) σ4)) ∧ (Int32.toInt v1 = 6 → hs σ v0 = some (0, 4) ∧ CV Γ d MX0_hit [.ref v0, .ref v2] σ (fun σ7 => Q (.inl none) σ7) (fun E σ7 => Q (.inr E) σ7)) ∧ (Int32.toInt v1 = 7 → CV Γ d MX7_lower [.ref v2] σ (fun σ10 => Q (.inl none) σ10) (fun _ _ => False)) ∧ (Int32.toInt v1 < 4 ∨ 7 < Int32.toInt v1 → Q (.inl none) σ))) : RUN Γ d MX0_applyToOne [.ref v0, .int v1, .ref v2] σ Q :=
  EV.enter [some (.ref v0), some (.int v1), some (.ref v2)] rfl (by decide +kernel) (Nat.le_of_ble_eq_true rfl) rfl (gX0_applyToOne_0 h)
theorem gX0_applyToTwo_0 {Γ : Gm} {d : Nat} {σ : AH} {Q : Oc → AH → Prop} {v0 : Nat} {v1 : Int32} {v2 : Nat} {v3 : Nat} (h : ((Int32.toInt v1 = 1 → hs σ v0 = some (0, 4) ∧ CV Γ d MX0_pair [.ref v0, .ref v2, .ref v3, .int 1] σ (fun σ2 => Q (.inl none) σ2) (fun E σ2 => Q (.inr E) σ2)) ∧ (Int32.toInt v1 = 2 → hs σ v0 = some (0, 4) ∧ ∃ t7 : Nat, gr σ v0 2 = some t7 ∧ CV Γ d MX7_copy [.ref v3, .ref t7] σ (fun σ9 => hs σ9 v0 = some (0, 4) ∧ ∃ t12 : Nat, gr σ9 v0 2 = some t12 ∧ CV Γ d MX7_raise [.ref t12] σ9 (fun σ14 => hs σ14 v0 = some (0, 4) ∧ ∃ t17 : Nat, gr σ14 v0 2 = some t17 ∧ CV Γ d MX0_keepAll [.ref v2, .ref t17] σ14 (fun σ19 => Q (.inl none) σ19) (fun _ _ => False)) (fun _ _ => False)) (fun _ _ => False)) ∧ (Int32.toInt v1 = 3 → hs σ v0 = some (0, 4) ∧ ∃ t23 : Nat, gr σ v0 2 = some t23 ∧ CV Γ d MX7_copy [.ref v3, .ref t23] σ (fun σ25 => hs σ25 v0 = some (0, 4) ∧ ∃ t28 : Nat, gr σ25 v0 2 = some t28 ∧ CV Γ d MX7_lower [.ref t28] σ25 (fun σ30 => hs σ30 v0 = some (0, 4) ∧ ∃ t33 : Nat, gr σ30 v0 2 = some t33 ∧ CV Γ d MX0_keepAll [.ref v2, .ref t33] σ30 (fun σ35 => Q (.inl none) σ35) (fun _ _ => False)) (fun _ _ => False)) (fun _ _ => False)) ∧ (Int32.toInt v1 = 37 → hs σ v0 = some (0, 4) ∧ CI Γ d MX0_divide [.ref v0, .ref v2, .ref v3] σ (fun r39 σ38 => hs σ38 v0 = some (0, 4) ∧ CV Γ d MX0_removeProducts [.ref v0, .ref v2, .int r39] σ38 (fun σ41 => Q (.inl none) σ41) (fun E σ41 => Q (.inr E) σ41)) (fun E σ38 => Q (.inr E) σ38)) ∧ (Int32.toInt v1 = 38 → CV Γ d MX0_keepAll [.ref v2, .ref v3] σ (fun σ45 => Q (.inl none) σ45) (fun _ _ => False)) ∧ (Int32.toInt v1 = 42 → hs σ v0 = some (0, 4) ∧ CV Γ d MX0_pair [.ref v0, .ref v2, .ref v3, .int 0] σ (fun σ48 => Q (.inl none) σ48) (fun E σ48 => Q (.inr E) σ48)) ∧ (Int32.toInt v1 = 43 → CV Γ d MX0_addAll [.ref v2, .ref v3] σ (fun σ52 => Q (.inl none) σ52) (fun _ _ => False)) ∧ (Int32.toInt v1 = 45 → CV Γ d MX0_removeAll [.ref v2, .ref v3] σ (fun σ55 => Q (.inl none) σ55) (fun _ _ => False)) ∧ (Int32.toInt v1 = 47 → hs σ v0 = some (0, 4) ∧ CI Γ d MX0_divide [.ref v0, .ref v2, .ref v3] σ (fun r59 σ58 => hs σ58 v0 = some (0, 4) ∧ ∃ t62 : Nat, gr σ58 v0 2 = some t62 ∧ CV Γ d MX7_copy [.ref t62, .ref v2] σ58 (fun σ64 => Q (.inl none) σ64) (fun _ _ => False)) (fun E σ58 => Q (.inr E) σ58)) ∧ (¬ Int32.toInt v1 = 1 ∧ ¬ Int32.toInt v1 = 2 ∧ ¬ Int32.toInt v1 = 3 ∧ ¬ Int32.toInt v1 = 37 ∧ ¬ Int32.toInt v1 = 38 ∧ ¬ Int32.toInt v1 = 42 ∧ ¬ Int32.toInt v1 = 43 ∧ ¬ Int32.toInt v1 = 45 ∧ ¬ Int32.toInt v1 = 47 → Q (.inl none) σ))) : EV Γ MX0_applyToTwo d 0 [some (.ref v0), some (.int v1), some (.ref v2), some (.ref v3), none] [] σ Q := by
  refine EV.iload_n 1 rfl 1 rfl rfl dX0_applyToTwo_0 ?_
  refine EV.lookupswitch (by decide) dX0_applyToTwo_1 ?_
  by_cases c1 : Int32.toInt v1 = 1
  · refine ⟨118, ?_, ?_⟩
    · rw [c1]; rfl
    have h := h.1 c1
    refine EV.aload_n 119 rfl 0 rfl rfl dX0_applyToTwo_118 ?_
    refine EV.aload_n 120 rfl 2 rfl rfl dX0_applyToTwo_119 ?_
    refine EV.aload_n 121 rfl 3 rfl rfl dX0_applyToTwo_120 ?_
    refine EV.iconst 122 rfl dX0_applyToTwo_121 (v := 1) (by decide) ?_
    obtain ⟨w4, h⟩ := h
    refine EV.cV rfl rfl lk_X0_50 rfl (vs := [.ref v2, .ref v3, .int 1]) (st := []) rfl rfl (Nat.le_of_ble_eq_true rfl) dX0_applyToTwo_122 w4 h (fun v σ2 h => ?_)
    obtain ⟨rfl, h⟩ := h
    show EV Γ MX0_applyToTwo d 125 [some (.ref v0), some (.int v1), some (.ref v2), some (.ref v3), none] [] σ2 Q
    refine EV.goto 216 (by decide) dX0_applyToTwo_125 ?_
    exact EV.vret rfl dX0_applyToTwo_216 h
  replace h := h.2
  by_cases c5 : Int32.toInt v1 = 2
  · refine ⟨164, ?_, ?_⟩
    · rw [c5]; rfl
    have h := h.1 c5
    refine EV.aload_n 165 rfl 3 rfl rfl dX0_applyToTwo_164 ?_
    refine EV.aload_n 166 rfl 0 rfl rfl dX0_applyToTwo_165 ?_
    obtain ⟨w6, h⟩ := h
    obtain ⟨t7, g8, h⟩ := h
    refine EV.getR 169 rfl fl_X0_9 rfl dX0_applyToTwo_166 w6 g8 ?_
    refine EV.cS rfl lk_X0_58 rfl (vs := [.ref v3, .ref t7]) (st := []) rfl rfl (Nat.le_of_ble_eq_true rfl) dX0_applyToTwo_169 h (fun v σ9 h => ?_)
    obtain ⟨rfl, h⟩ := h
    show EV Γ MX0_applyToTwo d 172 [some (.ref v0), some (.int v1), some (.ref v2), some (.ref v3), none] [] σ9 Q
    refine EV.aload_n 173 rfl 0 rfl rfl dX0_applyToTwo_172 ?_
    obtain ⟨w11, h⟩ := h
    obtain ⟨t12, g13, h⟩ := h
    refine EV.getR 176 rfl fl_X0_9 rfl dX0_applyToTwo_173 w11 g13 ?_
    refine EV.cS rfl lk_X0_65 rfl (vs := [.ref t12]) (st := []) rfl rfl (Nat.le_of_ble_eq_true rfl) dX0_applyToTwo_176 h (fun v σ14 h => ?_)
    obtain ⟨rfl, h⟩ := h
    show EV Γ MX0_applyToTwo d 179 [some (.ref v0), some (.int v1), some (.ref v2), some (.ref v3), none] [] σ14 Q
    refine EV.aload_n 180 rfl 2 rfl rfl dX0_applyToTwo_179 ?_
    refine EV.aload_n 181 rfl 0 rfl rfl dX0_applyToTwo_180 ?_
    obtain ⟨w16, h⟩ := h
    obtain ⟨t17, g18, h⟩ := h
    refine EV.getR 184 rfl fl_X0_9 rfl dX0_applyToTwo_181 w16 g18 ?_
    refine EV.cS rfl lk_X0_44 rfl (vs := [.ref v2, .ref t17]) (st := []) rfl rfl (Nat.le_of_ble_eq_true rfl) dX0_applyToTwo_184 h (fun v σ19 h => ?_)
    obtain ⟨rfl, h⟩ := h
    show EV Γ MX0_applyToTwo d 187 [some (.ref v0), some (.int v1), some (.ref v2), some (.ref v3), none] [] σ19 Q
    refine EV.goto 216 (by decide) dX0_applyToTwo_187 ?_
    exact EV.vret rfl dX0_applyToTwo_216 h
  replace h := h.2
  by_cases c21 : Int32.toInt v1 = 3
  · refine ⟨190, ?_, ?_⟩
    · rw [c21]; rfl
    have h := h.1 c21
    refine EV.aload_n 191 rfl 3 rfl rfl dX0_applyToTwo_190 ?_
    refine EV.aload_n 192 rfl 0 rfl rfl dX0_applyToTwo_191 ?_
    obtain ⟨w22, h⟩ := h
    obtain ⟨t23, g24, h⟩ := h
    refine EV.getR 195 rfl fl_X0_9 rfl dX0_applyToTwo_192 w22 g24 ?_
    refine EV.cS rfl lk_X0_58 rfl (vs := [.ref v3, .ref t23]) (st := []) rfl rfl (Nat.le_of_ble_eq_true rfl) dX0_applyToTwo_195 h (fun v σ25 h => ?_)
    obtain ⟨rfl, h⟩ := h
    show EV Γ MX0_applyToTwo d 198 [some (.ref v0), some (.int v1), some (.ref v2), some (.ref v3), none] [] σ25 Q
    refine EV.aload_n 199 rfl 0 rfl rfl dX0_applyToTwo_198 ?_
    obtain ⟨w27, h⟩ := h
    obtain ⟨t28, g29, h⟩ := h
    refine EV.getR 202 rfl fl_X0_9 rfl dX0_applyToTwo_199 w27 g29 ?_
    refine EV.cS rfl lk_X0_35 rfl (vs := [.ref t28]) (st := []) rfl rfl (Nat.le_of_ble_eq_true rfl) dX0_applyToTwo_202 h (fun v σ30 h => ?_)
    obtain ⟨rfl, h⟩ := h
    show EV Γ MX0_applyToTwo d 205 [some (.ref v0), some (.int v1), some (.ref v2), some (.ref v3), none] [] σ30 Q
    refine EV.aload_n 206 rfl 2 rfl rfl dX0_applyToTwo_205 ?_
    refine EV.aload_n 207 rfl 0 rfl rfl dX0_applyToTwo_206 ?_
    obtain ⟨w32, h⟩ := h
    obtain ⟨t33, g34, h⟩ := h
    refine EV.getR 210 rfl fl_X0_9 rfl dX0_applyToTwo_207 w32 g34 ?_
    refine EV.cS rfl lk_X0_44 rfl (vs := [.ref v2, .ref t33]) (st := []) rfl rfl (Nat.le_of_ble_eq_true rfl) dX0_applyToTwo_210 h (fun v σ35 h => ?_)
    obtain ⟨rfl, h⟩ := h
    show EV Γ MX0_applyToTwo d 213 [some (.ref v0), some (.int v1), some (.ref v2), some (.ref v3), none] [] σ35 Q
    refine EV.goto 216 (by decide) dX0_applyToTwo_213 ?_
    exact EV.vret rfl dX0_applyToTwo_216 h
  replace h := h.2
  by_cases c37 : Int32.toInt v1 = 37
  · refine ⟨146, ?_, ?_⟩
    · rw [c37]; rfl
    have h := h.1 c37
    refine EV.aload_n 147 rfl 0 rfl rfl dX0_applyToTwo_146 ?_
    refine EV.aload_n 148 rfl 2 rfl rfl dX0_applyToTwo_147 ?_
    refine EV.aload_n 149 rfl 3 rfl rfl dX0_applyToTwo_148 ?_
    obtain ⟨w40, h⟩ := h
    refine EV.cV rfl rfl lk_X0_54 rfl (vs := [.ref v2, .ref v3]) (st := []) rfl rfl (Nat.le_of_ble_eq_true rfl) dX0_applyToTwo_149 w40 h (fun v σ38 h => ?_)
    obtain ⟨r39, rfl, h⟩ := h
    show EV Γ MX0_applyToTwo d 152 [some (.ref v0), some (.int v1), some (.ref v2), some (.ref v3), none] [.int r39] σ38 Q
    refine EV.istore 154 rfl [some (.ref v0), some (.int v1), some (.ref v2), some (.ref v3), some (.int r39)] (by decide) rfl dX0_applyToTwo_152 ?_
    refine EV.aload_n 155 rfl 0 rfl rfl dX0_applyToTwo_154 ?_
    refine EV.aload_n 156 rfl 2 rfl rfl dX0_applyToTwo_155 ?_
    refine EV.iload 158 rfl rfl dX0_applyToTwo_156 ?_
    obtain ⟨w43, h⟩ := h
    refine EV.cV rfl rfl lk_X0_61 rfl (vs := [.ref v2, .int r39]) (st := []) rfl rfl (Nat.le_of_ble_eq_true rfl) dX0_applyToTwo_158 w43 h (fun v σ41 h => ?_)
    obtain ⟨rfl, h⟩ := h
    show EV Γ MX0_applyToTwo d 161 [some (.ref v0), some (.int v1), some (.ref v2), some (.ref v3), some (.int r39)] [] σ41 Q
    refine EV.goto 216 (by decide) dX0_applyToTwo_161 ?_
    exact EV.vret rfl dX0_applyToTwo_216 h
  replace h := h.2
  by_cases c44 : Int32.toInt v1 = 38
  · refine ⟨92, ?_, ?_⟩
    · rw [c44]; rfl
    have h := h.1 c44
    refine EV.aload_n 93 rfl 2 rfl rfl dX0_applyToTwo_92 ?_
    refine EV.aload_n 94 rfl 3 rfl rfl dX0_applyToTwo_93 ?_
    refine EV.cS rfl lk_X0_44 rfl (vs := [.ref v2, .ref v3]) (st := []) rfl rfl (Nat.le_of_ble_eq_true rfl) dX0_applyToTwo_94 h (fun v σ45 h => ?_)
    obtain ⟨rfl, h⟩ := h
    show EV Γ MX0_applyToTwo d 97 [some (.ref v0), some (.int v1), some (.ref v2), some (.ref v3), none] [] σ45 Q
    refine EV.goto 216 (by decide) dX0_applyToTwo_97 ?_
    exact EV.vret rfl dX0_applyToTwo_216 h
  replace h := h.2
  by_cases c47 : Int32.toInt v1 = 42
  · refine ⟨108, ?_, ?_⟩
    · rw [c47]; rfl
    have h := h.1 c47
    refine EV.aload_n 109 rfl 0 rfl rfl dX0_applyToTwo_108 ?_
    refine EV.aload_n 110 rfl 2 rfl rfl dX0_applyToTwo_109 ?_
    refine EV.aload_n 111 rfl 3 rfl rfl dX0_applyToTwo_110 ?_
    refine EV.iconst 112 rfl dX0_applyToTwo_111 (v := 0) (by decide) ?_
    obtain ⟨w50, h⟩ := h
    refine EV.cV rfl rfl lk_X0_50 rfl (vs := [.ref v2, .ref v3, .int 0]) (st := []) rfl rfl (Nat.le_of_ble_eq_true rfl) dX0_applyToTwo_112 w50 h (fun v σ48 h => ?_)
    obtain ⟨rfl, h⟩ := h
    show EV Γ MX0_applyToTwo d 115 [some (.ref v0), some (.int v1), some (.ref v2), some (.ref v3), none] [] σ48 Q
    refine EV.goto 216 (by decide) dX0_applyToTwo_115 ?_
    exact EV.vret rfl dX0_applyToTwo_216 h
  replace h := h.2
  by_cases c51 : Int32.toInt v1 = 43
  · refine ⟨84, ?_, ?_⟩
    · rw [c51]; rfl
    have h := h.1 c51
    refine EV.aload_n 85 rfl 2 rfl rfl dX0_applyToTwo_84 ?_
    refine EV.aload_n 86 rfl 3 rfl rfl dX0_applyToTwo_85 ?_
    refine EV.cS rfl lk_X0_40 rfl (vs := [.ref v2, .ref v3]) (st := []) rfl rfl (Nat.le_of_ble_eq_true rfl) dX0_applyToTwo_86 h (fun v σ52 h => ?_)
    obtain ⟨rfl, h⟩ := h
    show EV Γ MX0_applyToTwo d 89 [some (.ref v0), some (.int v1), some (.ref v2), some (.ref v3), none] [] σ52 Q
    refine EV.goto 216 (by decide) dX0_applyToTwo_89 ?_
    exact EV.vret rfl dX0_applyToTwo_216 h
  replace h := h.2
  by_cases c54 : Int32.toInt v1 = 45
  · refine ⟨100, ?_, ?_⟩
    · rw [c54]; rfl
    have h := h.1 c54
    refine EV.aload_n 101 rfl 2 rfl rfl dX0_applyToTwo_100 ?_
    refine EV.aload_n 102 rfl 3 rfl rfl dX0_applyToTwo_101 ?_
    refine EV.cS rfl lk_X0_47 rfl (vs := [.ref v2, .ref v3]) (st := []) rfl rfl (Nat.le_of_ble_eq_true rfl) dX0_applyToTwo_102 h (fun v σ55 h => ?_)
    obtain ⟨rfl, h⟩ := h
    show EV Γ MX0_applyToTwo d 105 [some (.ref v0), some (.int v1), some (.ref v2), some (.ref v3), none] [] σ55 Q
    refine EV.goto 216 (by decide) dX0_applyToTwo_105 ?_
    exact EV.vret rfl dX0_applyToTwo_216 h
  replace h := h.2
  by_cases c57 : Int32.toInt v1 = 47
  · refine ⟨128, ?_, ?_⟩
    · rw [c57]; rfl
    have h := h.1 c57
    refine EV.aload_n 129 rfl 0 rfl rfl dX0_applyToTwo_128 ?_
    refine EV.aload_n 130 rfl 2 rfl rfl dX0_applyToTwo_129 ?_
    refine EV.aload_n 131 rfl 3 rfl rfl dX0_applyToTwo_130 ?_
    obtain ⟨w60, h⟩ := h
    refine EV.cV rfl rfl lk_X0_54 rfl (vs := [.ref v2, .ref v3]) (st := []) rfl rfl (Nat.le_of_ble_eq_true rfl) dX0_applyToTwo_131 w60 h (fun v σ58 h => ?_)
    obtain ⟨r59, rfl, h⟩ := h
    show EV Γ MX0_applyToTwo d 134 [some (.ref v0), some (.int v1), some (.ref v2), some (.ref v3), none] [.int r59] σ58 Q
    refine EV.pop 135 rfl dX0_applyToTwo_134 rfl ?_
    refine EV.aload_n 136 rfl 0 rfl rfl dX0_applyToTwo_135 ?_
    obtain ⟨w61, h⟩ := h
    obtain ⟨t62, g63, h⟩ := h
    refine EV.getR 139 rfl fl_X0_9 rfl dX0_applyToTwo_136 w61 g63 ?_
    refine EV.aload_n 140 rfl 2 rfl rfl dX0_applyToTwo_139 ?_
    refine EV.cS rfl lk_X0_58 rfl (vs := [.ref t62, .ref v2]) (st := []) rfl rfl (Nat.le_of_ble_eq_true rfl) dX0_applyToTwo_140 h (fun v σ64 h => ?_)
    obtain ⟨rfl, h⟩ := h
    show EV Γ MX0_applyToTwo d 143 [some (.ref v0), some (.int v1), some (.ref v2), some (.ref v3), none] [] σ64 Q
    refine EV.goto 216 (by decide) dX0_applyToTwo_143 ?_
    exact EV.vret rfl dX0_applyToTwo_216 h
  replace h := h.2
  refine ⟨216, ?_, ?_⟩
  · show _ + Op.lookupswitch.offset _ _ _ = _
    have fc1 : ¬ (1 : Int) = Int32.toInt v1 := fun q => c1 q.symm
    have fc5 : ¬ (2 : Int) = Int32.toInt v1 := fun q => c5 q.symm
    have fc21 : ¬ (3 : Int) = Int32.toInt v1 := fun q => c21 q.symm
    have fc37 : ¬ (37 : Int) = Int32.toInt v1 := fun q => c37 q.symm
    have fc44 : ¬ (38 : Int) = Int32.toInt v1 := fun q => c44 q.symm
    have fc47 : ¬ (42 : Int) = Int32.toInt v1 := fun q => c47 q.symm
    have fc51 : ¬ (43 : Int) = Int32.toInt v1 := fun q => c51 q.symm
    have fc54 : ¬ (45 : Int) = Int32.toInt v1 := fun q => c54 q.symm
    have fc57 : ¬ (47 : Int) = Int32.toInt v1 := fun q => c57 q.symm
    simp [Op.lookupswitch.offset, fc1, fc5, fc21, fc37, fc44, fc47, fc51, fc54, fc57]
  have h := h ⟨c1, c5, c21, c37, c44, c47, c51, c54, c57⟩
  exact EV.vret rfl dX0_applyToTwo_216 h
theorem eX0_applyToTwo {Γ : Gm} {d : Nat} {σ : AH} {Q : Oc → AH → Prop} {v0 : Nat} {v1 : Int32} {v2 : Nat} {v3 : Nat} (h : ((Int32.toInt v1 = 1 → hs σ v0 = some (0, 4) ∧ CV Γ d MX0_pair [.ref v0, .ref v2, .ref v3, .int 1] σ (fun σ2 => Q (.inl none) σ2) (fun E σ2 => Q (.inr E) σ2)) ∧ (Int32.toInt v1 = 2 → hs σ v0 = some (0, 4) ∧ ∃ t7 : Nat, gr σ v0 2 = some t7 ∧ CV Γ d MX7_copy [.ref v3, .ref t7] σ (fun σ9 => hs σ9 v0 = some (0, 4) ∧ ∃ t12 : Nat, gr σ9 v0 2 = some t12 ∧ CV Γ d MX7_raise [.ref t12] σ9 (fun σ14 => hs σ14 v0 = some (0, 4) ∧ ∃ t17 : Nat, gr σ14 v0 2 = some t17 ∧ CV Γ d MX0_keepAll [.ref v2, .ref t17] σ14 (fun σ19 => Q (.inl none) σ19) (fun _ _ => False)) (fun _ _ => False)) (fun _ _ => False)) ∧ (Int32.toInt v1 = 3 → hs σ v0 = some (0, 4) ∧ ∃ t23 : Nat, gr σ v0 2 = some t23 ∧ CV Γ d MX7_copy [.ref v3, .ref t23] σ (fun σ25 => hs σ25 v0 = some (0, 4) ∧ ∃ t28 : Nat, gr σ25 v0 2 = some t28 ∧ CV Γ d MX7_lower [.ref t28] σ25 (fun σ30 => hs σ30 v0 = some (0, 4) ∧ ∃ t33 : Nat, gr σ30 v0 2 = some t33 ∧ CV Γ d MX0_keepAll [.ref v2, .ref t33] σ30 (fun σ35 => Q (.inl none) σ35) (fun _ _ => False)) (fun _ _ => False)) (fun _ _ => False)) ∧ (Int32.toInt v1 = 37 → hs σ v0 = some (0, 4) ∧ CI Γ d MX0_divide [.ref v0, .ref v2, .ref v3] σ (fun r39 σ38 => hs σ38 v0 = some (0, 4) ∧ CV Γ d MX0_removeProducts [.ref v0, .ref v2, .int r39] σ38 (fun σ41 => Q (.inl none) σ41) (fun E σ41 => Q (.inr E) σ41)) (fun E σ38 => Q (.inr E) σ38)) ∧ (Int32.toInt v1 = 38 → CV Γ d MX0_keepAll [.ref v2, .ref v3] σ (fun σ45 => Q (.inl none) σ45) (fun _ _ => False)) ∧ (Int32.toInt v1 = 42 → hs σ v0 = some (0, 4) ∧ CV Γ d MX0_pair [.ref v0, .ref v2, .ref v3, .int 0] σ (fun σ48 => Q (.inl none) σ48) (fun E σ48 => Q (.inr E) σ48)) ∧ (Int32.toInt v1 = 43 → CV Γ d MX0_addAll [.ref v2, .ref v3] σ (fun σ52 => Q (.inl none) σ52) (fun _ _ => False)) ∧ (Int32.toInt v1 = 45 → CV Γ d MX0_removeAll [.ref v2, .ref v3] σ (fun σ55 => Q (.inl none) σ55) (fun _ _ => False)) ∧ (Int32.toInt v1 = 47 → hs σ v0 = some (0, 4) ∧ CI Γ d MX0_divide [.ref v0, .ref v2, .ref v3] σ (fun r59 σ58 => hs σ58 v0 = some (0, 4) ∧ ∃ t62 : Nat, gr σ58 v0 2 = some t62 ∧ CV Γ d MX7_copy [.ref t62, .ref v2] σ58 (fun σ64 => Q (.inl none) σ64) (fun _ _ => False)) (fun E σ58 => Q (.inr E) σ58)) ∧ (¬ Int32.toInt v1 = 1 ∧ ¬ Int32.toInt v1 = 2 ∧ ¬ Int32.toInt v1 = 3 ∧ ¬ Int32.toInt v1 = 37 ∧ ¬ Int32.toInt v1 = 38 ∧ ¬ Int32.toInt v1 = 42 ∧ ¬ Int32.toInt v1 = 43 ∧ ¬ Int32.toInt v1 = 45 ∧ ¬ Int32.toInt v1 = 47 → Q (.inl none) σ))) : RUN Γ d MX0_applyToTwo [.ref v0, .int v1, .ref v2, .ref v3] σ Q :=
  EV.enter [some (.ref v0), some (.int v1), some (.ref v2), some (.ref v3), none] rfl (by decide +kernel) (Nat.le_of_ble_eq_true rfl) rfl (gX0_applyToTwo_0 h)
theorem gX0_addAll_0 {Γ : Gm} {d : Nat} {σ : AH} {Q : Oc → AH → Prop} {v0 : Nat} {v1 : Nat} (h : EV Γ MX0_addAll d 2 [some (.ref v0), some (.ref v1), some (.int 0)] [] σ Q) : EV Γ MX0_addAll d 0 [some (.ref v0), some (.ref v1), none] [] σ Q := by
  refine EV.iconst 1 rfl dX0_addAll_0 (v := 0) (by decide) ?_
  refine EV.istore_n 2 rfl 2 [some (.ref v0), some (.ref v1), some (.int 0)] rfl (by decide) rfl dX0_addAll_1 ?_
  exact h
theorem eX0_addAll {Γ : Gm} {d : Nat} {σ : AH} {Q : Oc → AH → Prop} {v0 : Nat} {v1 : Nat} (h : EV Γ MX0_addAll d 2 [some (.ref v0), some (.ref v1), some (.int 0)] [] σ Q) : RUN Γ d MX0_addAll [.ref v0, .ref v1] σ Q :=
  EV.enter [some (.ref v0), some (.ref v1), none] rfl (by decide +kernel) (Nat.le_of_ble_eq_true rfl) rfl (gX0_addAll_0 h)
theorem gX0_addAll_2 {Γ : Gm} {d : Nat} {σ : AH} {Q : Oc → AH → Prop} {v0 : Nat} {v1 : Nat} {v2 : Int32} (h : ((64 ≤ v2 → Q (.inl none) σ) ∧ (¬ 64 ≤ v2 → ∃ n3 : Nat, hs σ v0 = some (23, n3) ∧ ∃ j4 : Nat, IX v2 n3 j4 ∧ ∃ n7 : Nat, hs σ v1 = some (23, n7) ∧ ∃ j8 : Nat, IX v2 n7 j8 ∧ ∀ σ10 : AH, σ10 = setJ σ v0 j4 ((gj σ v0 j4) ||| (gj σ v1 j8)) → EV Γ MX0_addAll d 2 [some (.ref v0), some (.ref v1), some (.int (v2 + 1))] [] σ10 Q))) : EV Γ MX0_addAll d 2 [some (.ref v0), some (.ref v1), some (.int v2)] [] σ Q := by
  refine EV.iload_n 3 rfl 2 rfl rfl dX0_addAll_2 ?_
  refine EV.bipush 5 rfl dX0_addAll_3 (v := 64) (by decide) ?_
  refine EV.icmp_ge 8 23 rfl (by decide) dX0_addAll_5 (fun c1 => ?_) (fun c1 => ?_)
  · have h := h.1 c1
    exact EV.vret rfl dX0_addAll_23 h
  · have h := h.2 c1
    refine EV.aload_n 9 rfl 0 rfl rfl dX0_addAll_8 ?_
    refine EV.iload_n 10 rfl 2 rfl rfl dX0_addAll_9 ?_
    refine EV.dup2 11 rfl dX0_addAll_10 rfl rfl ?_
    obtain ⟨n3, w2, h⟩ := h
    obtain ⟨j4, x5, h⟩ := h
    refine EV.lald 12 rfl dX0_addAll_11 w2 x5 ?_
    refine EV.aload_n 13 rfl 1 rfl rfl dX0_addAll_12 ?_
    refine EV.iload_n 14 rfl 2 rfl rfl dX0_addAll_13 ?_
    obtain ⟨n7, w6, h⟩ := h
    obtain ⟨j8, x9, h⟩ := h
    refine EV.lald 15 rfl dX0_addAll_14 w6 x9 ?_
    refine EV.lor 16 rfl dX0_addAll_15 ?_
    refine EV.last 17 rfl dX0_addAll_16 w2 x5 (EV.nm (fun σ10 e11 => ?_))
    have h := h σ10 e11
    have w12 := tr_hs (hs_setJ_of e11) w2
    have w13 := tr_hs (hs_setJ_of e11) w6
    refine EV.iinc 20 rfl [some (.ref v0), some (.ref v1), some (.int (v2 + 1))] (v := 1) (by decide) (by decide) rfl rfl dX0_addAll_17 ?_
    refine EV.goto 2 (by decide) dX0_addAll_20 ?_
    exact h
theorem gX0_keepAll_0 {Γ : Gm} {d : Nat} {σ : AH} {Q : Oc → AH → Prop} {v0 : Nat} {v1 : Nat} (h : EV Γ MX0_keepAll d 2 [some (.ref v0), some (.ref v1), some (.int 0)] [] σ Q) : EV Γ MX0_keepAll d 0 [some (.ref v0), some (.ref v1), none] [] σ Q := by
  refine EV.iconst 1 rfl dX0_keepAll_0 (v := 0) (by decide) ?_
  refine EV.istore_n 2 rfl 2 [some (.ref v0), some (.ref v1), some (.int 0)] rfl (by decide) rfl dX0_keepAll_1 ?_
  exact h
theorem eX0_keepAll {Γ : Gm} {d : Nat} {σ : AH} {Q : Oc → AH → Prop} {v0 : Nat} {v1 : Nat} (h : EV Γ MX0_keepAll d 2 [some (.ref v0), some (.ref v1), some (.int 0)] [] σ Q) : RUN Γ d MX0_keepAll [.ref v0, .ref v1] σ Q :=
  EV.enter [some (.ref v0), some (.ref v1), none] rfl (by decide +kernel) (Nat.le_of_ble_eq_true rfl) rfl (gX0_keepAll_0 h)
theorem gX0_keepAll_2 {Γ : Gm} {d : Nat} {σ : AH} {Q : Oc → AH → Prop} {v0 : Nat} {v1 : Nat} {v2 : Int32} (h : ((64 ≤ v2 → Q (.inl none) σ) ∧ (¬ 64 ≤ v2 → ∃ n3 : Nat, hs σ v0 = some (23, n3) ∧ ∃ j4 : Nat, IX v2 n3 j4 ∧ ∃ n7 : Nat, hs σ v1 = some (23, n7) ∧ ∃ j8 : Nat, IX v2 n7 j8 ∧ ∀ σ10 : AH, σ10 = setJ σ v0 j4 ((gj σ v0 j4) &&& (gj σ v1 j8)) → EV Γ MX0_keepAll d 2 [some (.ref v0), some (.ref v1), some (.int (v2 + 1))] [] σ10 Q))) : EV Γ MX0_keepAll d 2 [some (.ref v0), some (.ref v1), some (.int v2)] [] σ Q := by
  refine EV.iload_n 3 rfl 2 rfl rfl dX0_keepAll_2 ?_
  refine EV.bipush 5 rfl dX0_keepAll_3 (v := 64) (by decide) ?_
  refine EV.icmp_ge 8 23 rfl (by decide) dX0_keepAll_5 (fun c1 => ?_) (fun c1 => ?_)
  · have h := h.1 c1
    exact EV.vret rfl dX0_keepAll_23 h
  · have h := h.2 c1
    refine EV.aload_n 9 rfl 0 rfl rfl dX0_keepAll_8 ?_
    refine EV.iload_n 10 rfl 2 rfl rfl dX0_keepAll_9 ?_
    refine EV.dup2 11 rfl dX0_keepAll_10 rfl rfl ?_
    obtain ⟨n3, w2, h⟩ := h
    obtain ⟨j4, x5, h⟩ := h
    refine EV.lald 12 rfl dX0_keepAll_11 w2 x5 ?_
    refine EV.aload_n 13 rfl 1 rfl rfl dX0_keepAll_12 ?_
    refine EV.iload_n 14 rfl 2 rfl rfl dX0_keepAll_13 ?_
    obtain ⟨n7, w6, h⟩ := h
    obtain ⟨j8, x9, h⟩ := h
    refine EV.lald 15 rfl dX0_keepAll_14 w6 x9 ?_
    refine EV.land 16 rfl dX0_keepAll_15 ?_
    refine EV.last 17 rfl dX0_keepAll_16 w2 x5 (EV.nm (fun σ10 e11 => ?_))
    have h := h σ10 e11
    have w12 := tr_hs (hs_setJ_of e11) w2
    have w13 := tr_hs (hs_setJ_of e11) w6
    refine EV.iinc 20 rfl [some (.ref v0), some (.ref v1), some (.int (v2 + 1))] (v := 1) (by decide) (by decide) rfl rfl dX0_keepAll_17 ?_
    refine EV.goto 2 (by decide) dX0_keepAll_20 ?_
    exact h
theorem gX0_removeAll_0 {Γ : Gm} {d : Nat} {σ : AH} {Q : Oc → AH → Prop} {v0 : Nat} {v1 : Nat} (h : EV Γ MX0_removeAll d 2 [some (.ref v0), some (.ref v1), some (.int 0)] [] σ Q) : EV Γ MX0_removeAll d 0 [some (.ref v0), some (.ref v1), none] [] σ Q := by
  refine EV.iconst 1 rfl dX0_removeAll_0 (v := 0) (by decide) ?_
  refine EV.istore_n 2 rfl 2 [some (.ref v0), some (.ref v1), some (.int 0)] rfl (by decide) rfl dX0_removeAll_1 ?_
  exact h
theorem eX0_removeAll {Γ : Gm} {d : Nat} {σ : AH} {Q : Oc → AH → Prop} {v0 : Nat} {v1 : Nat} (h : EV Γ MX0_removeAll d 2 [some (.ref v0), some (.ref v1), some (.int 0)] [] σ Q) : RUN Γ d MX0_removeAll [.ref v0, .ref v1] σ Q :=
  EV.enter [some (.ref v0), some (.ref v1), none] rfl (by decide +kernel) (Nat.le_of_ble_eq_true rfl) rfl (gX0_removeAll_0 h)
theorem gX0_removeAll_2 {Γ : Gm} {d : Nat} {σ : AH} {Q : Oc → AH → Prop} {v0 : Nat} {v1 : Nat} {v2 : Int32} (h : ((64 ≤ v2 → Q (.inl none) σ) ∧ (¬ 64 ≤ v2 → ∃ n3 : Nat, hs σ v0 = some (23, n3) ∧ ∃ j4 : Nat, IX v2 n3 j4 ∧ ∃ n7 : Nat, hs σ v1 = some (23, n7) ∧ ∃ j8 : Nat, IX v2 n7 j8 ∧ ∀ σ10 : AH, σ10 = setJ σ v0 j4 ((gj σ v0 j4) &&& ((gj σ v1 j8) ^^^ (-1))) → EV Γ MX0_removeAll d 2 [some (.ref v0), some (.ref v1), some (.int (v2 + 1))] [] σ10 Q))) : EV Γ MX0_removeAll d 2 [some (.ref v0), some (.ref v1), some (.int v2)] [] σ Q := by
  refine EV.iload_n 3 rfl 2 rfl rfl dX0_removeAll_2 ?_
  refine EV.bipush 5 rfl dX0_removeAll_3 (v := 64) (by decide) ?_
  refine EV.icmp_ge 8 27 rfl (by decide) dX0_removeAll_5 (fun c1 => ?_) (fun c1 => ?_)
  · have h := h.1 c1
    exact EV.vret rfl dX0_removeAll_27 h
  · have h := h.2 c1
    refine EV.aload_n 9 rfl 0 rfl rfl dX0_removeAll_8 ?_
    refine EV.iload_n 10 rfl 2 rfl rfl dX0_removeAll_9 ?_
    refine EV.dup2 11 rfl dX0_removeAll_10 rfl rfl ?_
    obtain ⟨n3, w2, h⟩ := h
    obtain ⟨j4, x5, h⟩ := h
    refine EV.lald 12 rfl dX0_removeAll_11 w2 x5 ?_
    refine EV.aload_n 13 rfl 1 rfl rfl dX0_removeAll_12 ?_
    refine EV.iload_n 14 rfl 2 rfl rfl dX0_removeAll_13 ?_
    obtain ⟨n7, w6, h⟩ := h
    obtain ⟨j8, x9, h⟩ := h
    refine EV.lald 15 rfl dX0_removeAll_14 w6 x9 ?_
    refine EV.ldc2 18 rfl k_X0_68 dX0_removeAll_15 ?_
    refine EV.lxor 19 rfl dX0_removeAll_18 ?_
    refine EV.land 20 rfl dX0_removeAll_19 ?_
    refine EV.last 21 rfl dX0_removeAll_20 w2 x5 (EV.nm (fun σ10 e11 => ?_))
    have h := h σ10 e11
    have w12 := tr_hs (hs_setJ_of e11) w2
    have w13 := tr_hs (hs_setJ_of e11) w6
    refine EV.iinc 24 rfl [some (.ref v0), some (.ref v1), some (.int (v2 + 1))] (v := 1) (by decide) (by decide) rfl rfl dX0_removeAll_21 ?_
    refine EV.goto 2 (by decide) dX0_removeAll_24 ?_
    exact h
theorem gX0_keepMaximal_0 {Γ : Gm} {d : Nat} {σ : AH} {Q : Oc → AH → Prop} {v0 : Nat} {v1 : Nat} (h : hs σ v0 = some (0, 4) ∧ ∃ t2 : Nat, gr σ v0 2 = some t2 ∧ CV Γ d MX7_copy [.ref v1, .ref t2] σ (fun σ4 => hs σ4 v0 = some (0, 4) ∧ ∃ t7 : Nat, gr σ4 v0 2 = some t7 ∧ CV Γ d MX7_lower [.ref t7] σ4 (fun σ9 => hs σ9 v0 = some (0, 4) ∧ ∃ t12 : Nat, gr σ9 v0 3 = some t12 ∧ CV Γ d MJ7_fill_d0a16 [.ref t12, .long 0] σ9 (fun σ14 => EV Γ MX0_keepMaximal d 25 [some (.ref v0), some (.ref v1), some (.int 0)] [] σ14 Q) (fun _ _ => False)) (fun _ _ => False)) (fun _ _ => False)) : EV Γ MX0_keepMaximal d 0 [some (.ref v0), some (.ref v1), none] [] σ Q := by
  refine EV.aload_n 1 rfl 1 rfl rfl dX0_keepMaximal_0 ?_
  refine EV.aload_n 2 rfl 0 rfl rfl dX0_keepMaximal_1 ?_
  obtain ⟨w1, h⟩ := h
  obtain ⟨t2, g3, h⟩ := h
  refine EV.getR 5 rfl fl_X0_9 rfl dX0_keepMaximal_2 w1 g3 ?_
  refine EV.cS rfl lk_X0_58 rfl (vs := [.ref v1, .ref t2]) (st := []) rfl rfl (Nat.le_of_ble_eq_true rfl) dX0_keepMaximal_5 h (fun v σ4 h => ?_)
  obtain ⟨rfl, h⟩ := h
  show EV Γ MX0_keepMaximal d 8 [some (.ref v0), some (.ref v1), none] [] σ4 Q
  refine EV.aload_n 9 rfl 0 rfl rfl dX0_keepMaximal_8 ?_
  obtain ⟨w6, h⟩ := h
  obtain ⟨t7, g8, h⟩ := h
  refine EV.getR 12 rfl fl_X0_9 rfl dX0_keepMaximal_9 w6 g8 ?_
  refine EV.cS rfl lk_X0_35 rfl (vs := [.ref t7]) (st := []) rfl rfl (Nat.le_of_ble_eq_true rfl) dX0_keepMaximal_12 h (fun v σ9 h => ?_)
  obtain ⟨rfl, h⟩ := h
  show EV Γ MX0_keepMaximal d 15 [some (.ref v0), some (.ref v1), none] [] σ9 Q
  refine EV.aload_n 16 rfl 0 rfl rfl dX0_keepMaximal_15 ?_
  obtain ⟨w11, h⟩ := h
  obtain ⟨t12, g13, h⟩ := h
  refine EV.getR 19 rfl fl_X0_15 rfl dX0_keepMaximal_16 w11 g13 ?_
  refine EV.lconst 20 rfl dX0_keepMaximal_19 (v := 0) (by decide) ?_
  refine EV.cS rfl lk_X0_70 rfl (vs := [.ref t12, .long 0]) (st := []) rfl rfl (Nat.le_of_ble_eq_true rfl) dX0_keepMaximal_20 h (fun v σ14 h => ?_)
  obtain ⟨rfl, h⟩ := h
  show EV Γ MX0_keepMaximal d 23 [some (.ref v0), some (.ref v1), none] [] σ14 Q
  refine EV.iconst 24 rfl dX0_keepMaximal_23 (v := 0) (by decide) ?_
  refine EV.istore_n 25 rfl 2 [some (.ref v0), some (.ref v1), some (.int 0)] rfl (by decide) rfl dX0_keepMaximal_24 ?_
  exact h
theorem eX0_keepMaximal {Γ : Gm} {d : Nat} {σ : AH} {Q : Oc → AH → Prop} {v0 : Nat} {v1 : Nat} (h : hs σ v0 = some (0, 4) ∧ ∃ t2 : Nat, gr σ v0 2 = some t2 ∧ CV Γ d MX7_copy [.ref v1, .ref t2] σ (fun σ4 => hs σ4 v0 = some (0, 4) ∧ ∃ t7 : Nat, gr σ4 v0 2 = some t7 ∧ CV Γ d MX7_lower [.ref t7] σ4 (fun σ9 => hs σ9 v0 = some (0, 4) ∧ ∃ t12 : Nat, gr σ9 v0 3 = some t12 ∧ CV Γ d MJ7_fill_d0a16 [.ref t12, .long 0] σ9 (fun σ14 => EV Γ MX0_keepMaximal d 25 [some (.ref v0), some (.ref v1), some (.int 0)] [] σ14 Q) (fun _ _ => False)) (fun _ _ => False)) (fun _ _ => False)) : RUN Γ d MX0_keepMaximal [.ref v0, .ref v1] σ Q :=
  EV.enter [some (.ref v0), some (.ref v1), none] rfl (by decide +kernel) (Nat.le_of_ble_eq_true rfl) rfl (gX0_keepMaximal_0 h)
theorem gX0_keepMaximal_25 {Γ : Gm} {d : Nat} {σ : AH} {Q : Oc → AH → Prop} {v0 : Nat} {v1 : Nat} {v2 : Int32} (h : ((12 ≤ v2 → hs σ v0 = some (0, 4) ∧ ∃ t3 : Nat, gr σ v0 3 = some t3 ∧ CV Γ d MX0_removeAll [.ref v1, .ref t3] σ (fun σ5 => Q (.inl none) σ5) (fun _ _ => False)) ∧ (¬ 12 ≤ v2 → hs σ v0 = some (0, 4) ∧ ∃ t8 : Nat, gr σ v0 2 = some t8 ∧ ∃ t10 : Nat, gr σ v0 3 = some t10 ∧ CV Γ d MX7_takeOut [.ref t8, .ref t10, .int v2] σ (fun σ12 => EV Γ MX0_keepMaximal d 25 [some (.ref v0), some (.ref v1), some (.int (v2 + 1))] [] σ12 Q) (fun _ _ => False)))) : EV Γ MX0_keepMaximal d 25 [some (.ref v0), some (.ref v1), some (.int v2)] [] σ Q := by
  refine EV.iload_n 26 rfl 2 rfl rfl dX0_keepMaximal_25 ?_
  refine EV.bipush 28 rfl dX0_keepMaximal_26 (v := 12) (by decide) ?_
  refine EV.icmp_ge 31 49 rfl (by decide) dX0_keepMaximal_28 (fun c1 => ?_) (fun c1 => ?_)
  · have h := h.1 c1
    refine EV.aload_n 50 rfl 1 rfl rfl dX0_keepMaximal_49 ?_
    refine EV.aload_n 51 rfl 0 rfl rfl dX0_keepMaximal_50 ?_
    obtain ⟨w2, h⟩ := h
    obtain ⟨t3, g4, h⟩ := h
    refine EV.getR 54 rfl fl_X0_15 rfl dX0_keepMaximal_51 w2 g4 ?_
    refine EV.cS rfl lk_X0_47 rfl (vs := [.ref v1, .ref t3]) (st := []) rfl rfl (Nat.le_of_ble_eq_true rfl) dX0_keepMaximal_54 h (fun v σ5 h => ?_)
    obtain ⟨rfl, h⟩ := h
    show EV Γ MX0_keepMaximal d 57 [some (.ref v0), some (.ref v1), some (.int v2)] [] σ5 Q
    exact EV.vret rfl dX0_keepMaximal_57 h
  · have h := h.2 c1
    refine EV.aload_n 32 rfl 0 rfl rfl dX0_keepMaximal_31 ?_
    obtain ⟨w7, h⟩ := h
    obtain ⟨t8, g9, h⟩ := h
    refine EV.getR 35 rfl fl_X0_9 rfl dX0_keepMaximal_32 w7 g9 ?_
    refine EV.aload_n 36 rfl 0 rfl rfl dX0_keepMaximal_35 ?_
    obtain ⟨t10, g11, h⟩ := h
    refine EV.getR 39 rfl fl_X0_15 rfl dX0_keepMaximal_36 w7 g11 ?_
    refine EV.iload_n 40 rfl 2 rfl rfl dX0_keepMaximal_39 ?_
    refine EV.cS rfl lk_X0_76 rfl (vs := [.ref t8, .ref t10, .int v2]) (st := []) rfl rfl (Nat.le_of_ble_eq_true rfl) dX0_keepMaximal_40 h (fun v σ12 h => ?_)
    obtain ⟨rfl, h⟩ := h
    show EV Γ MX0_keepMaximal d 43 [some (.ref v0), some (.ref v1), some (.int v2)] [] σ12 Q
    refine EV.iinc 46 rfl [some (.ref v0), some (.ref v1), some (.int (v2 + 1))] (v := 1) (by decide) (by decide) rfl rfl dX0_keepMaximal_43 ?_
    refine EV.goto 25 (by decide) dX0_keepMaximal_46 ?_
    exact h
theorem gX0_keepMinimal_0 {Γ : Gm} {d : Nat} {σ : AH} {Q : Oc → AH → Prop} {v0 : Nat} {v1 : Nat} (h : hs σ v0 = some (0, 4) ∧ ∃ t2 : Nat, gr σ v0 2 = some t2 ∧ CV Γ d MX7_copy [.ref v1, .ref t2] σ (fun σ4 => hs σ4 v0 = some (0, 4) ∧ ∃ t7 : Nat, gr σ4 v0 2 = some t7 ∧ CV Γ d MX7_raise [.ref t7] σ4 (fun σ9 => hs σ9 v0 = some (0, 4) ∧ ∃ t12 : Nat, gr σ9 v0 3 = some t12 ∧ CV Γ d MJ7_fill_d0a16 [.ref t12, .long 0] σ9 (fun σ14 => EV Γ MX0_keepMinimal d 25 [some (.ref v0), some (.ref v1), some (.int 0)] [] σ14 Q) (fun _ _ => False)) (fun _ _ => False)) (fun _ _ => False)) : EV Γ MX0_keepMinimal d 0 [some (.ref v0), some (.ref v1), none] [] σ Q := by
  refine EV.aload_n 1 rfl 1 rfl rfl dX0_keepMinimal_0 ?_
  refine EV.aload_n 2 rfl 0 rfl rfl dX0_keepMinimal_1 ?_
  obtain ⟨w1, h⟩ := h
  obtain ⟨t2, g3, h⟩ := h
  refine EV.getR 5 rfl fl_X0_9 rfl dX0_keepMinimal_2 w1 g3 ?_
  refine EV.cS rfl lk_X0_58 rfl (vs := [.ref v1, .ref t2]) (st := []) rfl rfl (Nat.le_of_ble_eq_true rfl) dX0_keepMinimal_5 h (fun v σ4 h => ?_)
  obtain ⟨rfl, h⟩ := h
  show EV Γ MX0_keepMinimal d 8 [some (.ref v0), some (.ref v1), none] [] σ4 Q
  refine EV.aload_n 9 rfl 0 rfl rfl dX0_keepMinimal_8 ?_
  obtain ⟨w6, h⟩ := h
  obtain ⟨t7, g8, h⟩ := h
  refine EV.getR 12 rfl fl_X0_9 rfl dX0_keepMinimal_9 w6 g8 ?_
  refine EV.cS rfl lk_X0_65 rfl (vs := [.ref t7]) (st := []) rfl rfl (Nat.le_of_ble_eq_true rfl) dX0_keepMinimal_12 h (fun v σ9 h => ?_)
  obtain ⟨rfl, h⟩ := h
  show EV Γ MX0_keepMinimal d 15 [some (.ref v0), some (.ref v1), none] [] σ9 Q
  refine EV.aload_n 16 rfl 0 rfl rfl dX0_keepMinimal_15 ?_
  obtain ⟨w11, h⟩ := h
  obtain ⟨t12, g13, h⟩ := h
  refine EV.getR 19 rfl fl_X0_15 rfl dX0_keepMinimal_16 w11 g13 ?_
  refine EV.lconst 20 rfl dX0_keepMinimal_19 (v := 0) (by decide) ?_
  refine EV.cS rfl lk_X0_70 rfl (vs := [.ref t12, .long 0]) (st := []) rfl rfl (Nat.le_of_ble_eq_true rfl) dX0_keepMinimal_20 h (fun v σ14 h => ?_)
  obtain ⟨rfl, h⟩ := h
  show EV Γ MX0_keepMinimal d 23 [some (.ref v0), some (.ref v1), none] [] σ14 Q
  refine EV.iconst 24 rfl dX0_keepMinimal_23 (v := 0) (by decide) ?_
  refine EV.istore_n 25 rfl 2 [some (.ref v0), some (.ref v1), some (.int 0)] rfl (by decide) rfl dX0_keepMinimal_24 ?_
  exact h
theorem eX0_keepMinimal {Γ : Gm} {d : Nat} {σ : AH} {Q : Oc → AH → Prop} {v0 : Nat} {v1 : Nat} (h : hs σ v0 = some (0, 4) ∧ ∃ t2 : Nat, gr σ v0 2 = some t2 ∧ CV Γ d MX7_copy [.ref v1, .ref t2] σ (fun σ4 => hs σ4 v0 = some (0, 4) ∧ ∃ t7 : Nat, gr σ4 v0 2 = some t7 ∧ CV Γ d MX7_raise [.ref t7] σ4 (fun σ9 => hs σ9 v0 = some (0, 4) ∧ ∃ t12 : Nat, gr σ9 v0 3 = some t12 ∧ CV Γ d MJ7_fill_d0a16 [.ref t12, .long 0] σ9 (fun σ14 => EV Γ MX0_keepMinimal d 25 [some (.ref v0), some (.ref v1), some (.int 0)] [] σ14 Q) (fun _ _ => False)) (fun _ _ => False)) (fun _ _ => False)) : RUN Γ d MX0_keepMinimal [.ref v0, .ref v1] σ Q :=
  EV.enter [some (.ref v0), some (.ref v1), none] rfl (by decide +kernel) (Nat.le_of_ble_eq_true rfl) rfl (gX0_keepMinimal_0 h)
theorem gX0_keepMinimal_25 {Γ : Gm} {d : Nat} {σ : AH} {Q : Oc → AH → Prop} {v0 : Nat} {v1 : Nat} {v2 : Int32} (h : ((12 ≤ v2 → hs σ v0 = some (0, 4) ∧ ∃ t3 : Nat, gr σ v0 3 = some t3 ∧ CV Γ d MX0_removeAll [.ref v1, .ref t3] σ (fun σ5 => Q (.inl none) σ5) (fun _ _ => False)) ∧ (¬ 12 ≤ v2 → hs σ v0 = some (0, 4) ∧ ∃ t8 : Nat, gr σ v0 2 = some t8 ∧ ∃ t10 : Nat, gr σ v0 3 = some t10 ∧ CV Γ d MX7_putIn [.ref t8, .ref t10, .int v2] σ (fun σ12 => EV Γ MX0_keepMinimal d 25 [some (.ref v0), some (.ref v1), some (.int (v2 + 1))] [] σ12 Q) (fun _ _ => False)))) : EV Γ MX0_keepMinimal d 25 [some (.ref v0), some (.ref v1), some (.int v2)] [] σ Q := by
  refine EV.iload_n 26 rfl 2 rfl rfl dX0_keepMinimal_25 ?_
  refine EV.bipush 28 rfl dX0_keepMinimal_26 (v := 12) (by decide) ?_
  refine EV.icmp_ge 31 49 rfl (by decide) dX0_keepMinimal_28 (fun c1 => ?_) (fun c1 => ?_)
  · have h := h.1 c1
    refine EV.aload_n 50 rfl 1 rfl rfl dX0_keepMinimal_49 ?_
    refine EV.aload_n 51 rfl 0 rfl rfl dX0_keepMinimal_50 ?_
    obtain ⟨w2, h⟩ := h
    obtain ⟨t3, g4, h⟩ := h
    refine EV.getR 54 rfl fl_X0_15 rfl dX0_keepMinimal_51 w2 g4 ?_
    refine EV.cS rfl lk_X0_47 rfl (vs := [.ref v1, .ref t3]) (st := []) rfl rfl (Nat.le_of_ble_eq_true rfl) dX0_keepMinimal_54 h (fun v σ5 h => ?_)
    obtain ⟨rfl, h⟩ := h
    show EV Γ MX0_keepMinimal d 57 [some (.ref v0), some (.ref v1), some (.int v2)] [] σ5 Q
    exact EV.vret rfl dX0_keepMinimal_57 h
  · have h := h.2 c1
    refine EV.aload_n 32 rfl 0 rfl rfl dX0_keepMinimal_31 ?_
    obtain ⟨w7, h⟩ := h
    obtain ⟨t8, g9, h⟩ := h
    refine EV.getR 35 rfl fl_X0_9 rfl dX0_keepMinimal_32 w7 g9 ?_
    refine EV.aload_n 36 rfl 0 rfl rfl dX0_keepMinimal_35 ?_
    obtain ⟨t10, g11, h⟩ := h
    refine EV.getR 39 rfl fl_X0_15 rfl dX0_keepMinimal_36 w7 g11 ?_
    refine EV.iload_n 40 rfl 2 rfl rfl dX0_keepMinimal_39 ?_
    refine EV.cS rfl lk_X0_80 rfl (vs := [.ref t8, .ref t10, .int v2]) (st := []) rfl rfl (Nat.le_of_ble_eq_true rfl) dX0_keepMinimal_40 h (fun v σ12 h => ?_)
    obtain ⟨rfl, h⟩ := h
    show EV Γ MX0_keepMinimal d 43 [some (.ref v0), some (.ref v1), some (.int v2)] [] σ12 Q
    refine EV.iinc 46 rfl [some (.ref v0), some (.ref v1), some (.int (v2 + 1))] (v := 1) (by decide) (by decide) rfl rfl dX0_keepMinimal_43 ?_
    refine EV.goto 25 (by decide) dX0_keepMinimal_46 ?_
    exact h
theorem gX0_hit_0 {Γ : Gm} {d : Nat} {σ : AH} {Q : Oc → AH → Prop} {v0 : Nat} {v1 : Nat} (h : CV Γ d MX7_raise [.ref v1] σ (fun σ1 => EV Γ MX0_hit d 6 [some (.ref v0), some (.ref v1), some (.int 0)] [] σ1 Q) (fun _ _ => False)) : EV Γ MX0_hit d 0 [some (.ref v0), some (.ref v1), none] [] σ Q := by
  refine EV.aload_n 1 rfl 1 rfl rfl dX0_hit_0 ?_
  refine EV.cS rfl lk_X0_65 rfl (vs := [.ref v1]) (st := []) rfl rfl (Nat.le_of_ble_eq_true rfl) dX0_hit_1 h (fun v σ1 h => ?_)
  obtain ⟨rfl, h⟩ := h
  show EV Γ MX0_hit d 4 [some (.ref v0), some (.ref v1), none] [] σ1 Q
  refine EV.iconst 5 rfl dX0_hit_4 (v := 0) (by decide) ?_
  refine EV.istore_n 6 rfl 2 [some (.ref v0), some (.ref v1), some (.int 0)] rfl (by decide) rfl dX0_hit_5 ?_
  exact h
theorem eX0_hit {Γ : Gm} {d : Nat} {σ : AH} {Q : Oc → AH → Prop} {v0 : Nat} {v1 : Nat} (h : CV Γ d MX7_raise [.ref v1] σ (fun σ1 => EV Γ MX0_hit d 6 [some (.ref v0), some (.ref v1), some (.int 0)] [] σ1 Q) (fun _ _ => False)) : RUN Γ d MX0_hit [.ref v0, .ref v1] σ Q :=
  EV.enter [some (.ref v0), some (.ref v1), none] rfl (by decide +kernel) (Nat.le_of_ble_eq_true rfl) rfl (gX0_hit_0 h)
theorem gX0_hit_6 {Γ : Gm} {d : Nat} {σ : AH} {Q : Oc → AH → Prop} {v0 : Nat} {v1 : Nat} {v2 : Int32} (h : ((12 ≤ v2 → EV Γ MX0_hit d 25 [some (.ref v0), some (.ref v1), some (.int 0)] [] σ Q) ∧ (¬ 12 ≤ v2 → CV Γ d MX7_swap [.ref v1, .int v2] σ (fun σ2 => EV Γ MX0_hit d 6 [some (.ref v0), some (.ref v1), some (.int (v2 + 1))] [] σ2 Q) (fun _ _ => False)))) : EV Γ MX0_hit d 6 [some (.ref v0), some (.ref v1), some (.int v2)] [] σ Q := by
  refine EV.iload_n 7 rfl 2 rfl rfl dX0_hit_6 ?_
  refine EV.bipush 9 rfl dX0_hit_7 (v := 12) (by decide) ?_
  refine EV.icmp_ge 12 23 rfl (by decide) dX0_hit_9 (fun c1 => ?_) (fun c1 => ?_)
  · have h := h.1 c1
    refine EV.iconst 24 rfl dX0_hit_23 (v := 0) (by decide) ?_
    refine EV.istore_n 25 rfl 2 [some (.ref v0), some (.ref v1), some (.int 0)] rfl (by decide) rfl dX0_hit_24 ?_
    exact h
  · have h := h.2 c1
    refine EV.aload_n 13 rfl 1 rfl rfl dX0_hit_12 ?_
    refine EV.iload_n 14 rfl 2 rfl rfl dX0_hit_13 ?_
    refine EV.cS rfl lk_X0_83 rfl (vs := [.ref v1, .int v2]) (st := []) rfl rfl (Nat.le_of_ble_eq_true rfl) dX0_hit_14 h (fun v σ2 h => ?_)
    obtain ⟨rfl, h⟩ := h
    show EV Γ MX0_hit d 17 [some (.ref v0), some (.ref v1), some (.int v2)] [] σ2 Q
    refine EV.iinc 20 rfl [some (.ref v0), some (.ref v1), some (.int (v2 + 1))] (v := 1) (by decide) (by decide) rfl rfl dX0_hit_17 ?_
    refine EV.goto 6 (by decide) dX0_hit_20 ?_
    exact h
theorem gX0_hit_25 {Γ : Gm} {d : Nat} {σ : AH} {Q : Oc → AH → Prop} {v0 : Nat} {v1 : Nat} {v2 : Int32} (h : ((64 ≤ v2 → hs σ v0 = some (0, 4) ∧ CV Γ d MX0_keepMinimal [.ref v0, .ref v1] σ (fun σ2 => Q (.inl none) σ2) (fun E σ2 => Q (.inr E) σ2)) ∧ (¬ 64 ≤ v2 → ∃ n6 : Nat, hs σ v1 = some (23, n6) ∧ ∃ j7 : Nat, IX v2 n6 j7 ∧ ∀ σ9 : AH, σ9 = setJ σ v1 j7 ((gj σ v1 j7) ^^^ (-1)) → EV Γ MX0_hit d 25 [some (.ref v0), some (.ref v1), some (.int (v2 + 1))] [] σ9 Q))) : EV Γ MX0_hit d 25 [some (.ref v0), some (.ref v1), some (.int v2)] [] σ Q := by
  refine EV.iload_n 26 rfl 2 rfl rfl dX0_hit_25 ?_
  refine EV.bipush 28 rfl dX0_hit_26 (v := 64) (by decide) ?_
  refine EV.icmp_ge 31 47 rfl (by decide) dX0_hit_28 (fun c1 => ?_) (fun c1 => ?_)
  · have h := h.1 c1
    refine EV.aload_n 48 rfl 0 rfl rfl dX0_hit_47 ?_
    refine EV.aload_n 49 rfl 1 rfl rfl dX0_hit_48 ?_
    obtain ⟨w4, h⟩ := h
    refine EV.cV rfl rfl lk_X0_29 rfl (vs := [.ref v1]) (st := []) rfl rfl (Nat.le_of_ble_eq_true rfl) dX0_hit_49 w4 h (fun v σ2 h => ?_)
    obtain ⟨rfl, h⟩ := h
    show EV Γ MX0_hit d 52 [some (.ref v0), some (.ref v1), some (.int v2)] [] σ2 Q
    exact EV.vret rfl dX0_hit_52 h
  · have h := h.2 c1
    refine EV.aload_n 32 rfl 1 rfl rfl dX0_hit_31 ?_
    refine EV.iload_n 33 rfl 2 rfl rfl dX0_hit_32 ?_
    refine EV.aload_n 34 rfl 1 rfl rfl dX0_hit_33 ?_
    refine EV.iload_n 35 rfl 2 rfl rfl dX0_hit_34 ?_
    obtain ⟨n6, w5, h⟩ := h
    obtain ⟨j7, x8, h⟩ := h
    refine EV.lald 36 rfl dX0_hit_35 w5 x8 ?_
    refine EV.ldc2 39 rfl k_X0_68 dX0_hit_36 ?_
    refine EV.lxor 40 rfl dX0_hit_39 ?_
    refine EV.last 41 rfl dX0_hit_40 w5 x8 (EV.nm (fun σ9 e10 => ?_))
    have h := h σ9 e10
    have w11 := tr_hs (hs_setJ_of e10) w5
    refine EV.iinc 44 rfl [some (.ref v0), some (.ref v1), some (.int (v2 + 1))] (v := 1) (by decide) (by decide) rfl rfl dX0_hit_41 ?_
    refine EV.goto 25 (by decide) dX0_hit_44 ?_
    exact h
theorem gX0_pair_0 {Γ : Gm} {d : Nat} {σ : AH} {Q : Oc → AH → Prop} {v0 : Nat} {v1 : Nat} {v2 : Nat} {v3 : Int32} (h : hs σ v0 = some (0, 4) ∧ ∃ t2 : Nat, gr σ v0 0 = some t2 ∧ CI Γ d MX7_list [.ref v1, .ref t2] σ (fun r5 σ4 => hs σ4 v0 = some (0, 4) ∧ ∃ t7 : Nat, gr σ4 v0 1 = some t7 ∧ CI Γ d MX7_list [.ref v2, .ref t7] σ4 (fun r10 σ9 => (((r5 * r10) ≤ 32768 → CV Γ d MJ7_fill_d0a16 [.ref v1, .long 0] σ9 (fun σ12 => EV Γ MX0_pair d 46 [some (.ref v0), some (.ref v1), none, some (.int v3), some (.int r5), some (.int r10), some (.int 0), none] [] σ12 Q) (fun _ _ => False)) ∧ (¬ (r5 * r10) ≤ 32768 → hs σ9 v0 = some (0, 4) ∧ CV Γ d MX0_countPairs [.ref v0, .ref v1, .ref v2, .int v3] σ9 (fun σ14 => Q (.inl none) σ14) (fun E σ14 => Q (.inr E) σ14)))) (fun _ _ => False)) (fun _ _ => False)) : EV Γ MX0_pair d 0 [some (.ref v0), some (.ref v1), some (.ref v2), some (.int v3), none, none, none, none] [] σ Q := by
  refine EV.aload_n 1 rfl 1 rfl rfl dX0_pair_0 ?_
  refine EV.aload_n 2 rfl 0 rfl rfl dX0_pair_1 ?_
  obtain ⟨w1, h⟩ := h
  obtain ⟨t2, g3, h⟩ := h
  refine EV.getR 5 rfl fl_X0_18 rfl dX0_pair_2 w1 g3 ?_
  refine EV.cS rfl lk_X0_86 rfl (vs := [.ref v1, .ref t2]) (st := []) rfl rfl (Nat.le_of_ble_eq_true rfl) dX0_pair_5 h (fun v σ4 h => ?_)
  obtain ⟨r5, rfl, h⟩ := h
  show EV Γ MX0_pair d 8 [some (.ref v0), some (.ref v1), some (.ref v2), some (.int v3), none, none, none, none] [.int r5] σ4 Q
  refine EV.istore 10 rfl [some (.ref v0), some (.ref v1), some (.ref v2), some (.int v3), some (.int r5), none, none, none] (by decide) rfl dX0_pair_8 ?_
  refine EV.aload_n 11 rfl 2 rfl rfl dX0_pair_10 ?_
  refine EV.aload_n 12 rfl 0 rfl rfl dX0_pair_11 ?_
  obtain ⟨w6, h⟩ := h
  obtain ⟨t7, g8, h⟩ := h
  refine EV.getR 15 rfl fl_X0_22 rfl dX0_pair_12 w6 g8 ?_
  refine EV.cS rfl lk_X0_86 rfl (vs := [.ref v2, .ref t7]) (st := []) rfl rfl (Nat.le_of_ble_eq_true rfl) dX0_pair_15 h (fun v σ9 h => ?_)
  obtain ⟨r10, rfl, h⟩ := h
  show EV Γ MX0_pair d 18 [some (.ref v0), some (.ref v1), some (.ref v2), some (.int v3), some (.int r5), none, none, none] [.int r10] σ9 Q
  refine EV.istore 20 rfl [some (.ref v0), some (.ref v1), some (.ref v2), some (.int v3), some (.int r5), some (.int r10), none, none] (by decide) rfl dX0_pair_18 ?_
  refine EV.iload 22 rfl rfl dX0_pair_20 ?_
  refine EV.iload 24 rfl rfl dX0_pair_22 ?_
  refine EV.imul 25 rfl dX0_pair_24 ?_
  refine EV.ldc 27 rfl k_X0_90 dX0_pair_25 ?_
  refine EV.icmp_le 30 38 rfl (by decide) dX0_pair_27 (fun c11 => ?_) (fun c11 => ?_)
  · have h := h.1 c11
    refine EV.aload_n 39 rfl 1 rfl rfl dX0_pair_38 ?_
    refine EV.lconst 40 rfl dX0_pair_39 (v := 0) (by decide) ?_
    refine EV.cS rfl lk_X0_70 rfl (vs := [.ref v1, .long 0]) (st := []) rfl rfl (Nat.le_of_ble_eq_true rfl) dX0_pair_40 h (fun v σ12 h => ?_)
    obtain ⟨rfl, h⟩ := h
    show EV Γ MX0_pair d 43 [some (.ref v0), some (.ref v1), some (.ref v2), some (.int v3), some (.int r5), some (.int r10), none, none] [] σ12 Q
    refine EV.iconst 44 rfl dX0_pair_43 (v := 0) (by decide) ?_
    refine EV.istore 46 rfl [some (.ref v0), some (.ref v1), some (.ref v2), some (.int v3), some (.int r5), some (.int r10), some (.int 0), none] (by decide) rfl dX0_pair_44 ?_
    refine EV.mask [true, true, false, true, true, true, true, false] (L' := [some (.ref v0), some (.ref v1), none, some (.int v3), some (.int r5), some (.int r10), some (.int 0), none]) rfl ?_
    exact h
  · have h := h.2 c11
    refine EV.aload_n 31 rfl 0 rfl rfl dX0_pair_30 ?_
    refine EV.aload_n 32 rfl 1 rfl rfl dX0_pair_31 ?_
    refine EV.aload_n 33 rfl 2 rfl rfl dX0_pair_32 ?_
    refine EV.iload_n 34 rfl 3 rfl rfl dX0_pair_33 ?_
    obtain ⟨w16, h⟩ := h
    refine EV.cV rfl rfl lk_X0_91 rfl (vs := [.ref v1, .ref v2, .int v3]) (st := []) rfl rfl (Nat.le_of_ble_eq_true rfl) dX0_pair_34 w16 h (fun v σ14 h => ?_)
    obtain ⟨rfl, h⟩ := h
    show EV Γ MX0_pair d 37 [some (.ref v0), some (.ref v1), some (.ref v2), some (.int v3), some (.int r5), some (.int r10), none, none] [] σ14 Q
    exact EV.vret rfl dX0_pair_37 h
theorem eX0_pair {Γ : Gm} {d : Nat} {σ : AH} {Q : Oc → AH → Prop} {v0 : Nat} {v1 : Nat} {v2 : Nat} {v3 : Int32} (h : hs σ v0 = some (0, 4) ∧ ∃ t2 : Nat, gr σ v0 0 = some t2 ∧ CI Γ d MX7_list [.ref v1, .ref t2] σ (fun r5 σ4 => hs σ4 v0 = some (0, 4) ∧ ∃ t7 : Nat, gr σ4 v0 1 = some t7 ∧ CI Γ d MX7_list [.ref v2, .ref t7] σ4 (fun r10 σ9 => (((r5 * r10) ≤ 32768 → CV Γ d MJ7_fill_d0a16 [.ref v1, .long 0] σ9 (fun σ12 => EV Γ MX0_pair d 46 [some (.ref v0), some (.ref v1), none, some (.int v3), some (.int r5), some (.int r10), some (.int 0), none] [] σ12 Q) (fun _ _ => False)) ∧ (¬ (r5 * r10) ≤ 32768 → hs σ9 v0 = some (0, 4) ∧ CV Γ d MX0_countPairs [.ref v0, .ref v1, .ref v2, .int v3] σ9 (fun σ14 => Q (.inl none) σ14) (fun E σ14 => Q (.inr E) σ14)))) (fun _ _ => False)) (fun _ _ => False)) : RUN Γ d MX0_pair [.ref v0, .ref v1, .ref v2, .int v3] σ Q :=
  EV.enter [some (.ref v0), some (.ref v1), some (.ref v2), some (.int v3), none, none, none, none] rfl (by decide +kernel) (Nat.le_of_ble_eq_true rfl) rfl (gX0_pair_0 h)
theorem gX0_pair_46 {Γ : Gm} {d : Nat} {σ : AH} {Q : Oc → AH → Prop} {v0 : Nat} {v1 : Nat} {v3 : Int32} {v4 : Int32} {v5 : Int32} {v6 : Int32} (h : ((v4 ≤ v6 → Q (.inl none) σ) ∧ (¬ v4 ≤ v6 → ((4096 ≤ v6 → Q (.inl none) σ) ∧ (¬ 4096 ≤ v6 → EV Γ MX0_pair d 64 [some (.ref v0), some (.ref v1), none, some (.int v3), some (.int v4), some (.int v5), some (.int v6), some (.int 0)] [] σ Q))))) : EV Γ MX0_pair d 46 [some (.ref v0), some (.ref v1), none, some (.int v3), some (.int v4), some (.int v5), some (.int v6), none] [] σ Q := by
  refine EV.iload 48 rfl rfl dX0_pair_46 ?_
  refine EV.iload 50 rfl rfl dX0_pair_48 ?_
  refine EV.icmp_ge 53 132 rfl (by decide) dX0_pair_50 (fun c1 => ?_) (fun c1 => ?_)
  · have h := h.1 c1
    exact EV.vret rfl dX0_pair_132 h
  · have h := h.2 c1
    refine EV.iload 55 rfl rfl dX0_pair_53 ?_
    refine EV.sipush 58 rfl dX0_pair_55 (v := 4096) (by decide) ?_
    refine EV.icmp_ge 61 132 rfl (by decide) dX0_pair_58 (fun c2 => ?_) (fun c2 => ?_)
    · have h := h.1 c2
      exact EV.vret rfl dX0_pair_132 h
    · have h := h.2 c2
      refine EV.iconst 62 rfl dX0_pair_61 (v := 0) (by decide) ?_
      refine EV.istore 64 rfl [some (.ref v0), some (.ref v1), none, some (.int v3), some (.int v4), some (.int v5), some (.int v6), some (.int 0)] (by decide) rfl dX0_pair_62 ?_
      exact h
theorem gX0_pair_64 {Γ : Gm} {d : Nat} {σ : AH} {Q : Oc → AH → Prop} {v0 : Nat} {v1 : Nat} {v3 : Int32} {v4 : Int32} {v5 : Int32} {v6 : Int32} {v7 : Int32} (h : ((v5 ≤ v7 → EV Γ MX0_pair d 46 [some (.ref v0), some (.ref v1), none, some (.int v3), some (.int v4), some (.int v5), some (.int (v6 + 1)), none] [] σ Q) ∧ (¬ v5 ≤ v7 → ((4096 ≤ v7 → EV Γ MX0_pair d 46 [some (.ref v0), some (.ref v1), none, some (.int v3), some (.int v4), some (.int v5), some (.int (v6 + 1)), none] [] σ Q) ∧ (¬ 4096 ≤ v7 → ((v3 = 0 → hs σ v0 = some (0, 4) ∧ ∃ t5 : Nat, gr σ v0 0 = some t5 ∧ ∃ n8 : Nat, hs σ t5 = some (22, n8) ∧ ∃ j9 : Nat, IX v6 n8 j9 ∧ ∃ t11 : Nat, gr σ v0 1 = some t11 ∧ ∃ n14 : Nat, hs σ t11 = some (22, n14) ∧ ∃ j15 : Nat, IX v7 n14 j15 ∧ EV Γ MX0_pair d 117 [some (.ref v0), some (.ref v1), none, some (.int v3), some (.int v4), some (.int v5), some (.int v6), some (.int v7)] [.int ((gi σ t5 j9) ||| (gi σ t11 j15)), .ref v1] σ Q) ∧ (¬ v3 = 0 → hs σ v0 = some (0, 4) ∧ ∃ t18 : Nat, gr σ v0 0 = some t18 ∧ ∃ n21 : Nat, hs σ t18 = some (22, n21) ∧ ∃ j22 : Nat, IX v6 n21 j22 ∧ ∃ t24 : Nat, gr σ v0 1 = some t24 ∧ ∃ n27 : Nat, hs σ t24 = some (22, n27) ∧ ∃ j28 : Nat, IX v7 n27 j28 ∧ EV Γ MX0_pair d 117 [some (.ref v0), some (.ref v1), none, some (.int v3), some (.int v4), some (.int v5), some (.int v6), some (.int v7)] [.int ((gi σ t18 j22) &&& (gi σ t24 j28)), .ref v1] σ Q))))))) : EV Γ MX0_pair d 64 [some (.ref v0), some (.ref v1), none, some (.int v3), some (.int v4), some (.int v5), some (.int v6), some (.int v7)] [] σ Q := by
  refine EV.iload 66 rfl rfl dX0_pair_64 ?_
  refine EV.iload 68 rfl rfl dX0_pair_66 ?_
  refine EV.icmp_ge 71 126 rfl (by decide) dX0_pair_68 (fun c1 => ?_) (fun c1 => ?_)
  · have h := h.1 c1
    refine EV.iinc 129 rfl [some (.ref v0), some (.ref v1), none, some (.int v3), some (.int v4), some (.int v5), some (.int (v6 + 1)), some (.int v7)] (v := 1) (by decide) (by decide) rfl rfl dX0_pair_126 ?_
    refine EV.goto 46 (by decide) dX0_pair_129 ?_
    refine EV.mask [true, true, false, true, true, true, true, false] (L' := [some (.ref v0), some (.ref v1), none, some (.int v3), some (.int v4), some (.int v5), some (.int (v6 + 1)), none]) rfl ?_
    exact h
  · have h := h.2 c1
    refine EV.iload 73 rfl rfl dX0_pair_71 ?_
    refine EV.sipush 76 rfl dX0_pair_73 (v := 4096) (by decide) ?_
    refine EV.icmp_ge 79 126 rfl (by decide) dX0_pair_76 (fun c2 => ?_) (fun c2 => ?_)
    · have h := h.1 c2
      refine EV.iinc 129 rfl [some (.ref v0), some (.ref v1), none, some (.int v3), some (.int v4), some (.int v5), some (.int (v6 + 1)), some (.int v7)] (v := 1) (by decide) (by decide) rfl rfl dX0_pair_126 ?_
      refine EV.goto 46 (by decide) dX0_pair_129 ?_
      refine EV.mask [true, true, false, true, true, true, true, false] (L' := [some (.ref v0), some (.ref v1), none, some (.int v3), some (.int v4), some (.int v5), some (.int (v6 + 1)), none]) rfl ?_
      exact h
    · have h := h.2 c2
      refine EV.aload_n 80 rfl 1 rfl rfl dX0_pair_79 ?_
      refine EV.iload_n 81 rfl 3 rfl rfl dX0_pair_80 ?_
      refine EV.if_eq 84 102 rfl (by decide) dX0_pair_81 (fun c3 => ?_) (fun c3 => ?_)
      · have h := h.1 c3
        refine EV.aload_n 103 rfl 0 rfl rfl dX0_pair_102 ?_
        obtain ⟨w4, h⟩ := h
        obtain ⟨t5, g6, h⟩ := h
        refine EV.getR 106 rfl fl_X0_18 rfl dX0_pair_103 w4 g6 ?_
        refine EV.iload 108 rfl rfl dX0_pair_106 ?_
        obtain ⟨n8, w7, h⟩ := h
        obtain ⟨j9, x10, h⟩ := h
        refine EV.iald 109 rfl dX0_pair_108 w7 x10 ?_
        refine EV.aload_n 110 rfl 0 rfl rfl dX0_pair_109 ?_
        obtain ⟨t11, g12, h⟩ := h
        refine EV.getR 113 rfl fl_X0_22 rfl dX0_pair_110 w4 g12 ?_
        refine EV.iload 115 rfl rfl dX0_pair_113 ?_
        obtain ⟨n14, w13, h⟩ := h
        obtain ⟨j15, x16, h⟩ := h
        refine EV.iald 116 rfl dX0_pair_115 w13 x16 ?_
        refine EV.ior 117 rfl dX0_pair_116 ?_
        exact h
      · have h := h.2 c3
        refine EV.aload_n 85 rfl 0 rfl rfl dX0_pair_84 ?_
        obtain ⟨w17, h⟩ := h
        obtain ⟨t18, g19, h⟩ := h
        refine EV.getR 88 rfl fl_X0_18 rfl dX0_pair_85 w17 g19 ?_
        refine EV.iload 90 rfl rfl dX0_pair_88 ?_
        obtain ⟨n21, w20, h⟩ := h
        obtain ⟨j22, x23, h⟩ := h
        refine EV.iald 91 rfl dX0_pair_90 w20 x23 ?_
        refine EV.aload_n 92 rfl 0 rfl rfl dX0_pair_91 ?_
        obtain ⟨t24, g25, h⟩ := h
        refine EV.getR 95 rfl fl_X0_22 rfl dX0_pair_92 w17 g25 ?_
        refine EV.iload 97 rfl rfl dX0_pair_95 ?_
        obtain ⟨n27, w26, h⟩ := h
        obtain ⟨j28, x29, h⟩ := h
        refine EV.iald 98 rfl dX0_pair_97 w26 x29 ?_
        refine EV.iand 99 rfl dX0_pair_98 ?_
        refine EV.goto 117 (by decide) dX0_pair_99 ?_
        exact h
theorem gX0_pair_117 {Γ : Gm} {d : Nat} {σ : AH} {Q : Oc → AH → Prop} {v0 : Nat} {v1 : Nat} {v3 : Int32} {v4 : Int32} {v5 : Int32} {v6 : Int32} {v7 : Int32} {s0 : Int32} {s1 : Nat} (h : CV Γ d MX7_put [.ref s1, .int s0] σ (fun σ1 => EV Γ MX0_pair d 64 [some (.ref v0), some (.ref v1), none, some (.int v3), some (.int v4), some (.int v5), some (.int v6), some (.int (v7 + 1))] [] σ1 Q) (fun _ _ => False)) : EV Γ MX0_pair d 117 [some (.ref v0), some (.ref v1), none, some (.int v3), some (.int v4), some (.int v5), some (.int v6), some (.int v7)] [.int s0, .ref s1] σ Q := by
  refine EV.cS rfl lk_X0_94 rfl (vs := [.ref s1, .int s0]) (st := []) rfl rfl (Nat.le_of_ble_eq_true rfl) dX0_pair_117 h (fun v σ1 h => ?_)
  obtain ⟨rfl, h⟩ := h
  show EV Γ MX0_pair d 120 [some (.ref v0), some (.ref v1), none, some (.int v3), some (.int v4), some (.int v5), some (.int v6), some (.int v7)] [] σ1 Q
  refine EV.iinc 123 rfl [some (.ref v0), some (.ref v1), none, some (.int v3), some (.int v4), some (.int v5), some (.int v6), some (.int (v7 + 1))] (v := 1) (by decide) (by decide) rfl rfl dX0_pair_120 ?_
  refine EV.goto 64 (by decide) dX0_pair_123 ?_
  exact h
theorem gX0_countPairs_0 {Γ : Gm} {d : Nat} {σ : AH} {Q : Oc → AH → Prop} {v0 : Nat} {v1 : Nat} {v2 : Nat} {v3 : Int32} (h : CI Γ d MX7_span [.ref v1] σ (fun r2 σ1 => CI Γ d MX7_span [.ref v2] σ1 (fun r4 σ3 => 1 ≤ d ∧ ((v3 = 0 → EV Γ MX0_countPairs d 25 [some (.ref v0), some (.ref v1), some (.ref v2), none, some (.int (if r2 < r4 then r4 else r2)), none, none] [.int 0] σ3 Q) ∧ (¬ v3 = 0 → EV Γ MX0_countPairs d 25 [some (.ref v0), some (.ref v1), some (.ref v2), none, some (.int (if r2 < r4 then r4 else r2)), none, none] [.int ((if r2 < r4 then r4 else r2) - 1)] σ3 Q))) (fun _ _ => False)) (fun _ _ => False)) : EV Γ MX0_countPairs d 0 [some (.ref v0), some (.ref v1), some (.ref v2), some (.int v3), none, none, none] [] σ Q := by
  refine EV.aload_n 1 rfl 1 rfl rfl dX0_countPairs_0 ?_
  refine EV.cS rfl lk_X0_97 rfl (vs := [.ref v1]) (st := []) rfl rfl (Nat.le_of_ble_eq_true rfl) dX0_countPairs_1 h (fun v σ1 h => ?_)
  obtain ⟨r2, rfl, h⟩ := h
  show EV Γ MX0_countPairs d 4 [some (.ref v0), some (.ref v1), some (.ref v2), some (.int v3), none, none, none] [.int r2] σ1 Q
  refine EV.aload_n 5 rfl 2 rfl rfl dX0_countPairs_4 ?_
  refine EV.cS rfl lk_X0_97 rfl (vs := [.ref v2]) (st := [.int r2]) rfl rfl (Nat.le_of_ble_eq_true rfl) dX0_countPairs_5 h (fun v σ3 h => ?_)
  obtain ⟨r4, rfl, h⟩ := h
  show EV Γ MX0_countPairs d 8 [some (.ref v0), some (.ref v1), some (.ref v2), some (.int v3), none, none, none] [.int r4, .int r2] σ3 Q
  obtain ⟨z5, h⟩ := h
  refine EV.mmax 11 rfl mm_X0_101 z5 (Nat.le_of_ble_eq_true rfl) dX0_countPairs_8 ?_
  refine EV.istore 13 rfl [some (.ref v0), some (.ref v1), some (.ref v2), some (.int v3), some (.int (if r2 < r4 then r4 else r2)), none, none] (by decide) rfl dX0_countPairs_11 ?_
  refine EV.iload_n 14 rfl 3 rfl rfl dX0_countPairs_13 ?_
  refine EV.if_eq 17 24 rfl (by decide) dX0_countPairs_14 (fun c6 => ?_) (fun c6 => ?_)
  · have h := h.1 c6
    refine EV.iconst 25 rfl dX0_countPairs_24 (v := 0) (by decide) ?_
    refine EV.mask [true, true, true, false, true, false, false] (L' := [some (.ref v0), some (.ref v1), some (.ref v2), none, some (.int (if r2 < r4 then r4 else r2)), none, none]) rfl ?_
    exact h
  · have h := h.2 c6
    refine EV.iload 19 rfl rfl dX0_countPairs_17 ?_
    refine EV.iconst 20 rfl dX0_countPairs_19 (v := 1) (by decide) ?_
    refine EV.isub 21 rfl dX0_countPairs_20 ?_
    refine EV.goto 25 (by decide) dX0_countPairs_21 ?_
    refine EV.mask [true, true, true, false, true, false, false] (L' := [some (.ref v0), some (.ref v1), some (.ref v2), none, some (.int (if r2 < r4 then r4 else r2)), none, none]) rfl ?_
    exact h
theorem eX0_countPairs {Γ : Gm} {d : Nat} {σ : AH} {Q : Oc → AH → Prop} {v0 : Nat} {v1 : Nat} {v2 : Nat} {v3 : Int32} (h : CI Γ d MX7_span [.ref v1] σ (fun r2 σ1 => CI Γ d MX7_span [.ref v2] σ1 (fun r4 σ3 => 1 ≤ d ∧ ((v3 = 0 → EV Γ MX0_countPairs d 25 [some (.ref v0), some (.ref v1), some (.ref v2), none, some (.int (if r2 < r4 then r4 else r2)), none, none] [.int 0] σ3 Q) ∧ (¬ v3 = 0 → EV Γ MX0_countPairs d 25 [some (.ref v0), some (.ref v1), some (.ref v2), none, some (.int (if r2 < r4 then r4 else r2)), none, none] [.int ((if r2 < r4 then r4 else r2) - 1)] σ3 Q))) (fun _ _ => False)) (fun _ _ => False)) : RUN Γ d MX0_countPairs [.ref v0, .ref v1, .ref v2, .int v3] σ Q :=
  EV.enter [some (.ref v0), some (.ref v1), some (.ref v2), some (.int v3), none, none, none] rfl (by decide +kernel) (Nat.le_of_ble_eq_true rfl) rfl (gX0_countPairs_0 h)
theorem gX0_countPairs_25 {Γ : Gm} {d : Nat} {σ : AH} {Q : Oc → AH → Prop} {v0 : Nat} {v1 : Nat} {v2 : Nat} {v4 : Int32} {s0 : Int32} (h : hs σ v0 = some (0, 4) ∧ ∃ t2 : Nat, gr σ v0 0 = some t2 ∧ CV Γ d MX0_spread [.ref v1, .ref t2, .int v4, .int s0] σ (fun σ4 => hs σ4 v0 = some (0, 4) ∧ ∃ t7 : Nat, gr σ4 v0 1 = some t7 ∧ CV Γ d MX0_spread [.ref v2, .ref t7, .int v4, .int s0] σ4 (fun σ9 => hs σ9 v0 = some (0, 4) ∧ ∃ t12 : Nat, gr σ9 v0 0 = some t12 ∧ CV Γ d MX0_sumSubsets [.ref t12, .int v4, .int 1] σ9 (fun σ14 => hs σ14 v0 = some (0, 4) ∧ ∃ t17 : Nat, gr σ14 v0 1 = some t17 ∧ CV Γ d MX0_sumSubsets [.ref t17, .int v4, .int 1] σ14 (fun σ19 => EV Γ MX0_countPairs d 74 [some (.ref v0), some (.ref v1), none, none, some (.int v4), some (.int s0), some (.int 0)] [] σ19 Q) (fun _ _ => False)) (fun _ _ => False)) (fun _ _ => False)) (fun _ _ => False)) : EV Γ MX0_countPairs d 25 [some (.ref v0), some (.ref v1), some (.ref v2), none, some (.int v4), none, none] [.int s0] σ Q := by
  refine EV.istore 27 rfl [some (.ref v0), some (.ref v1), some (.ref v2), none, some (.int v4), some (.int s0), none] (by decide) rfl dX0_countPairs_25 ?_
  refine EV.aload_n 28 rfl 1 rfl rfl dX0_countPairs_27 ?_
  refine EV.aload_n 29 rfl 0 rfl rfl dX0_countPairs_28 ?_
  obtain ⟨w1, h⟩ := h
  obtain ⟨t2, g3, h⟩ := h
  refine EV.getR 32 rfl fl_X0_18 rfl dX0_countPairs_29 w1 g3 ?_
  refine EV.iload 34 rfl rfl dX0_countPairs_32 ?_
  refine EV.iload 36 rfl rfl dX0_countPairs_34 ?_
  refine EV.cS rfl lk_X0_107 rfl (vs := [.ref v1, .ref t2, .int v4, .int s0]) (st := []) rfl rfl (Nat.le_of_ble_eq_true rfl) dX0_countPairs_36 h (fun v σ4 h => ?_)
  obtain ⟨rfl, h⟩ := h
  show EV Γ MX0_countPairs d 39 [some (.ref v0), some (.ref v1), some (.ref v2), none, some (.int v4), some (.int s0), none] [] σ4 Q
  refine EV.aload_n 40 rfl 2 rfl rfl dX0_countPairs_39 ?_
  refine EV.aload_n 41 rfl 0 rfl rfl dX0_countPairs_40 ?_
  obtain ⟨w6, h⟩ := h
  obtain ⟨t7, g8, h⟩ := h
  refine EV.getR 44 rfl fl_X0_22 rfl dX0_countPairs_41 w6 g8 ?_
  refine EV.iload 46 rfl rfl dX0_countPairs_44 ?_
  refine EV.iload 48 rfl rfl dX0_countPairs_46 ?_
  refine EV.cS rfl lk_X0_107 rfl (vs := [.ref v2, .ref t7, .int v4, .int s0]) (st := []) rfl rfl (Nat.le_of_ble_eq_true rfl) dX0_countPairs_48 h (fun v σ9 h => ?_)
  obtain ⟨rfl, h⟩ := h
  show EV Γ MX0_countPairs d 51 [some (.ref v0), some (.ref v1), some (.ref v2), none, some (.int v4), some (.int s0), none] [] σ9 Q
  refine EV.aload_n 52 rfl 0 rfl rfl dX0_countPairs_51 ?_
  obtain ⟨w11, h⟩ := h
  obtain ⟨t12, g13, h⟩ := h
  refine EV.getR 55 rfl fl_X0_18 rfl dX0_countPairs_52 w11 g13 ?_
  refine EV.iload 57 rfl rfl dX0_countPairs_55 ?_
  refine EV.iconst 58 rfl dX0_countPairs_57 (v := 1) (by decide) ?_
  refine EV.cS rfl lk_X0_111 rfl (vs := [.ref t12, .int v4, .int 1]) (st := []) rfl rfl (Nat.le_of_ble_eq_true rfl) dX0_countPairs_58 h (fun v σ14 h => ?_)
  obtain ⟨rfl, h⟩ := h
  show EV Γ MX0_countPairs d 61 [some (.ref v0), some (.ref v1), some (.ref v2), none, some (.int v4), some (.int s0), none] [] σ14 Q
  refine EV.aload_n 62 rfl 0 rfl rfl dX0_countPairs_61 ?_
  obtain ⟨w16, h⟩ := h
  obtain ⟨t17, g18, h⟩ := h
  refine EV.getR 65 rfl fl_X0_22 rfl dX0_countPairs_62 w16 g18 ?_
  refine EV.iload 67 rfl rfl dX0_countPairs_65 ?_
  refine EV.iconst 68 rfl dX0_countPairs_67 (v := 1) (by decide) ?_
  refine EV.cS rfl lk_X0_111 rfl (vs := [.ref t17, .int v4, .int 1]) (st := []) rfl rfl (Nat.le_of_ble_eq_true rfl) dX0_countPairs_68 h (fun v σ19 h => ?_)
  obtain ⟨rfl, h⟩ := h
  show EV Γ MX0_countPairs d 71 [some (.ref v0), some (.ref v1), some (.ref v2), none, some (.int v4), some (.int s0), none] [] σ19 Q
  refine EV.iconst 72 rfl dX0_countPairs_71 (v := 0) (by decide) ?_
  refine EV.istore 74 rfl [some (.ref v0), some (.ref v1), some (.ref v2), none, some (.int v4), some (.int s0), some (.int 0)] (by decide) rfl dX0_countPairs_72 ?_
  refine EV.mask [true, true, false, false, true, true, true] (L' := [some (.ref v0), some (.ref v1), none, none, some (.int v4), some (.int s0), some (.int 0)]) rfl ?_
  exact h
theorem gX0_countPairs_74 {Γ : Gm} {d : Nat} {σ : AH} {Q : Oc → AH → Prop} {v0 : Nat} {v1 : Nat} {v4 : Int32} {v5 : Int32} {v6 : Int32} (h : ((v4 ≤ v6 → EV Γ MX0_countPairs d 112 [some (.ref v0), some (.ref v1), none, none, some (.int v4), some (.int v5), none] [] σ Q) ∧ (¬ v4 ≤ v6 → ((4096 ≤ v6 → EV Γ MX0_countPairs d 112 [some (.ref v0), some (.ref v1), none, none, some (.int v4), some (.int v5), none] [] σ Q) ∧ (¬ 4096 ≤ v6 → hs σ v0 = some (0, 4) ∧ ∃ t4 : Nat, gr σ v0 0 = some t4 ∧ ∃ n7 : Nat, hs σ t4 = some (22, n7) ∧ ∃ j8 : Nat, IX v6 n7 j8 ∧ ∃ t10 : Nat, gr σ v0 1 = some t10 ∧ ∃ n13 : Nat, hs σ t10 = some (22, n13) ∧ ∃ j14 : Nat, IX v6 n13 j14 ∧ ∀ σ16 : AH, σ16 = setI σ t4 j8 ((gi σ t4 j8) * (gi σ t10 j14)) → EV Γ MX0_countPairs d 74 [some (.ref v0), some (.ref v1), none, none, some (.int v4), some (.int v5), some (.int (v6 + 1))] [] σ16 Q))))) : EV Γ MX0_countPairs d 74 [some (.ref v0), some (.ref v1), none, none, some (.int v4), some (.int v5), some (.int v6)] [] σ Q := by
  refine EV.iload 76 rfl rfl dX0_countPairs_74 ?_
  refine EV.iload 78 rfl rfl dX0_countPairs_76 ?_
  refine EV.icmp_ge 81 112 rfl (by decide) dX0_countPairs_78 (fun c1 => ?_) (fun c1 => ?_)
  · have h := h.1 c1
    refine EV.mask [true, true, false, false, true, true, false] (L' := [some (.ref v0), some (.ref v1), none, none, some (.int v4), some (.int v5), none]) rfl ?_
    exact h
  · have h := h.2 c1
    refine EV.iload 83 rfl rfl dX0_countPairs_81 ?_
    refine EV.sipush 86 rfl dX0_countPairs_83 (v := 4096) (by decide) ?_
    refine EV.icmp_ge 89 112 rfl (by decide) dX0_countPairs_86 (fun c2 => ?_) (fun c2 => ?_)
    · have h := h.1 c2
      refine EV.mask [true, true, false, false, true, true, false] (L' := [some (.ref v0), some (.ref v1), none, none, some (.int v4), some (.int v5), none]) rfl ?_
      exact h
    · have h := h.2 c2
      refine EV.aload_n 90 rfl 0 rfl rfl dX0_countPairs_89 ?_
      obtain ⟨w3, h⟩ := h
      obtain ⟨t4, g5, h⟩ := h
      refine EV.getR 93 rfl fl_X0_18 rfl dX0_countPairs_90 w3 g5 ?_
      refine EV.iload 95 rfl rfl dX0_countPairs_93 ?_
      refine EV.dup2 96 rfl dX0_countPairs_95 rfl rfl ?_
      obtain ⟨n7, w6, h⟩ := h
      obtain ⟨j8, x9, h⟩ := h
      refine EV.iald 97 rfl dX0_countPairs_96 w6 x9 ?_
      refine EV.aload_n 98 rfl 0 rfl rfl dX0_countPairs_97 ?_
      obtain ⟨t10, g11, h⟩ := h
      refine EV.getR 101 rfl fl_X0_22 rfl dX0_countPairs_98 w3 g11 ?_
      refine EV.iload 103 rfl rfl dX0_countPairs_101 ?_
      obtain ⟨n13, w12, h⟩ := h
      obtain ⟨j14, x15, h⟩ := h
      refine EV.iald 104 rfl dX0_countPairs_103 w12 x15 ?_
      refine EV.imul 105 rfl dX0_countPairs_104 ?_
      refine EV.iast 106 rfl dX0_countPairs_105 w6 x9 (EV.nm (fun σ16 e17 => ?_))
      have h := h σ16 e17
      have w18 := tr_hs (hs_setI_of e17) w3
      have w19 := tr_hs (hs_setI_of e17) w6
      have w20 := tr_hs (hs_setI_of e17) w12
      have g21 := tr_gr (gr_setI_of e17) g5
      have g22 := tr_gr (gr_setI_of e17) g11
      refine EV.iinc 109 rfl [some (.ref v0), some (.ref v1), none, none, some (.int v4), some (.int v5), some (.int (v6 + 1))] (v := 1) (by decide) (by decide) rfl rfl dX0_countPairs_106 ?_
      refine EV.goto 74 (by decide) dX0_countPairs_109 ?_
      exact h
theorem gX0_countPairs_112 {Γ : Gm} {d : Nat} {σ : AH} {Q : Oc → AH → Prop} {v0 : Nat} {v1 : Nat} {v4 : Int32} {v5 : Int32} (h : hs σ v0 = some (0, 4) ∧ ∃ t2 : Nat, gr σ v0 0 = some t2 ∧ CV Γ d MX0_sumSubsets [.ref t2, .int v4, .int (-1)] σ (fun σ4 => CV Γ d MJ7_fill_d0a16 [.ref v1, .long 0] σ4 (fun σ6 => EV Γ MX0_countPairs d 130 [some (.ref v0), some (.ref v1), none, none, some (.int v4), some (.int v5), some (.int 0)] [] σ6 Q) (fun _ _ => False)) (fun _ _ => False)) : EV Γ MX0_countPairs d 112 [some (.ref v0), some (.ref v1), none, none, some (.int v4), some (.int v5), none] [] σ Q := by
  refine EV.aload_n 113 rfl 0 rfl rfl dX0_countPairs_112 ?_
  obtain ⟨w1, h⟩ := h
  obtain ⟨t2, g3, h⟩ := h
  refine EV.getR 116 rfl fl_X0_18 rfl dX0_countPairs_113 w1 g3 ?_
  refine EV.iload 118 rfl rfl dX0_countPairs_116 ?_
  refine EV.iconst 119 rfl dX0_countPairs_118 (v := (-1)) (by decide) ?_
  refine EV.cS rfl lk_X0_111 rfl (vs := [.ref t2, .int v4, .int (-1)]) (st := []) rfl rfl (Nat.le_of_ble_eq_true rfl) dX0_countPairs_119 h (fun v σ4 h => ?_)
  obtain ⟨rfl, h⟩ := h
  show EV Γ MX0_countPairs d 122 [some (.ref v0), some (.ref v1), none, none, some (.int v4), some (.int v5), none] [] σ4 Q
  refine EV.aload_n 123 rfl 1 rfl rfl dX0_countPairs_122 ?_
  refine EV.lconst 124 rfl dX0_countPairs_123 (v := 0) (by decide) ?_
  refine EV.cS rfl lk_X0_70 rfl (vs := [.ref v1, .long 0]) (st := []) rfl rfl (Nat.le_of_ble_eq_true rfl) dX0_countPairs_124 h (fun v σ6 h => ?_)
  obtain ⟨rfl, h⟩ := h
  show EV Γ MX0_countPairs d 127 [some (.ref v0), some (.ref v1), none, none, some (.int v4), some (.int v5), none] [] σ6 Q
  refine EV.iconst 128 rfl dX0_countPairs_127 (v := 0) (by decide) ?_
  refine EV.istore 130 rfl [some (.ref v0), some (.ref v1), none, none, some (.int v4), some (.int v5), some (.int 0)] (by decide) rfl dX0_countPairs_128 ?_
  exact h
theorem gX0_countPairs_130 {Γ : Gm} {d : Nat} {σ : AH} {Q : Oc → AH → Prop} {v0 : Nat} {v1 : Nat} {v4 : Int32} {v5 : Int32} {v6 : Int32} (h : ((v4 ≤ v6 → Q (.inl none) σ) ∧ (¬ v4 ≤ v6 → ((4096 ≤ v6 → Q (.inl none) σ) ∧ (¬ 4096 ≤ v6 → hs σ v0 = some (0, 4) ∧ ∃ t4 : Nat, gr σ v0 0 = some t4 ∧ ∃ n7 : Nat, hs σ t4 = some (22, n7) ∧ ∃ j8 : Nat, IX v6 n7 j8 ∧ (((gi σ t4 j8) = 0 → EV Γ MX0_countPairs d 130 [some (.ref v0), some (.ref v1), none, none, some (.int v4), some (.int v5), some (.int (v6 + 1))] [] σ Q) ∧ (¬ (gi σ t4 j8) = 0 → CV Γ d MX7_put [.ref v1, .int (v6 ^^^ v5)] σ (fun σ11 => EV Γ MX0_countPairs d 130 [some (.ref v0), some (.ref v1), none, none, some (.int v4), some (.int v5), some (.int (v6 + 1))] [] σ11 Q) (fun _ _ => False)))))))) : EV Γ MX0_countPairs d 130 [some (.ref v0), some (.ref v1), none, none, some (.int v4), some (.int v5), some (.int v6)] [] σ Q := by
  refine EV.iload 132 rfl rfl dX0_countPairs_130 ?_
  refine EV.iload 134 rfl rfl dX0_countPairs_132 ?_
  refine EV.icmp_ge 137 170 rfl (by decide) dX0_countPairs_134 (fun c1 => ?_) (fun c1 => ?_)
  · have h := h.1 c1
    exact EV.vret rfl dX0_countPairs_170 h
  · have h := h.2 c1
    refine EV.iload 139 rfl rfl dX0_countPairs_137 ?_
    refine EV.sipush 142 rfl dX0_countPairs_139 (v := 4096) (by decide) ?_
    refine EV.icmp_ge 145 170 rfl (by decide) dX0_countPairs_142 (fun c2 => ?_) (fun c2 => ?_)
    · have h := h.1 c2
      exact EV.vret rfl dX0_countPairs_170 h
    · have h := h.2 c2
      refine EV.aload_n 146 rfl 0 rfl rfl dX0_countPairs_145 ?_
      obtain ⟨w3, h⟩ := h
      obtain ⟨t4, g5, h⟩ := h
      refine EV.getR 149 rfl fl_X0_18 rfl dX0_countPairs_146 w3 g5 ?_
      refine EV.iload 151 rfl rfl dX0_countPairs_149 ?_
      obtain ⟨n7, w6, h⟩ := h
      obtain ⟨j8, x9, h⟩ := h
      refine EV.iald 152 rfl dX0_countPairs_151 w6 x9 ?_
      refine EV.if_eq 155 164 rfl (by decide) dX0_countPairs_152 (fun c10 => ?_) (fun c10 => ?_)
      · have h := h.1 c10
        refine EV.iinc 167 rfl [some (.ref v0), some (.ref v1), none, none, some (.int v4), some (.int v5), some (.int (v6 + 1))] (v := 1) (by decide) (by decide) rfl rfl dX0_countPairs_164 ?_
        refine EV.goto 130 (by decide) dX0_countPairs_167 ?_
        exact h
      · have h := h.2 c10
        refine EV.aload_n 156 rfl 1 rfl rfl dX0_countPairs_155 ?_
        refine EV.iload 158 rfl rfl dX0_countPairs_156 ?_
        refine EV.iload 160 rfl rfl dX0_countPairs_158 ?_
        refine EV.ixor 161 rfl dX0_countPairs_160 ?_
        refine EV.cS rfl lk_X0_94 rfl (vs := [.ref v1, .int (v6 ^^^ v5)]) (st := []) rfl rfl (Nat.le_of_ble_eq_true rfl) dX0_countPairs_161 h (fun v σ11 h => ?_)
        obtain ⟨rfl, h⟩ := h
        show EV Γ MX0_countPairs d 164 [some (.ref v0), some (.ref v1), none, none, some (.int v4), some (.int v5), some (.int v6)] [] σ11 Q
        refine EV.iinc 167 rfl [some (.ref v0), some (.ref v1), none, none, some (.int v4), some (.int v5), some (.int (v6 + 1))] (v := 1) (by decide) (by decide) rfl rfl dX0_countPairs_164 ?_
        refine EV.goto 130 (by decide) dX0_countPairs_167 ?_
        exact h
theorem gX0_spread_0 {Γ : Gm} {d : Nat} {σ : AH} {Q : Oc → AH → Prop} {v0 : Nat} {v1 : Nat} {v2 : Int32} {v3 : Int32} (h : EV Γ MX0_spread d 3 [some (.ref v0), some (.ref v1), some (.int v2), some (.int v3), some (.int 0)] [] σ Q) : EV Γ MX0_spread d 0 [some (.ref v0), some (.ref v1), some (.int v2), some (.int v3), none] [] σ Q := by
  refine EV.iconst 1 rfl dX0_spread_0 (v := 0) (by decide) ?_
  refine EV.istore 3 rfl [some (.ref v0), some (.ref v1), some (.int v2), some (.int v3), some (.int 0)] (by decide) rfl dX0_spread_1 ?_
  exact h
theorem eX0_spread {Γ : Gm} {d : Nat} {σ : AH} {Q : Oc → AH → Prop} {v0 : Nat} {v1 : Nat} {v2 : Int32} {v3 : Int32} (h : EV Γ MX0_spread d 3 [some (.ref v0), some (.ref v1), some (.int v2), some (.int v3), some (.int 0)] [] σ Q) : RUN Γ d MX0_spread [.ref v0, .ref v1, .int v2, .int v3] σ Q :=
  EV.enter [some (.ref v0), some (.ref v1), some (.int v2), some (.int v3), none] rfl (by decide +kernel) (Nat.le_of_ble_eq_true rfl) rfl (gX0_spread_0 h)
theorem gX0_spread_3 {Γ : Gm} {d : Nat} {σ : AH} {Q : Oc → AH → Prop} {v0 : Nat} {v1 : Nat} {v2 : Int32} {v3 : Int32} {v4 : Int32} (h : ((v2 ≤ v4 → Q (.inl none) σ) ∧ (¬ v2 ≤ v4 → ∃ n3 : Nat, hs σ v1 = some (22, n3) ∧ (((nI n3) ≤ v4 → Q (.inl none) σ) ∧ (¬ (nI n3) ≤ v4 → CI Γ d MX7_has [.ref v0, .int (v4 ^^^ v3)] σ (fun r6 σ5 => ((r6 = 0 → ∃ n9 : Nat, hs σ5 v1 = some (22, n9) ∧ ∃ j10 : Nat, IX v4 n9 j10 ∧ ∀ σ12 : AH, σ12 = setI σ5 v1 j10 0 → EV Γ MX0_spread d 3 [some (.ref v0), some (.ref v1), some (.int v2), some (.int v3), some (.int (v4 + 1))] [] σ12 Q) ∧ (¬ r6 = 0 → ∃ n16 : Nat, hs σ5 v1 = some (22, n16) ∧ ∃ j17 : Nat, IX v4 n16 j17 ∧ ∀ σ19 : AH, σ19 = setI σ5 v1 j17 1 → EV Γ MX0_spread d 3 [some (.ref v0), some (.ref v1), some (.int v2), some (.int v3), some (.int (v4 + 1))] [] σ19 Q))) (fun _ _ => False)))))) : EV Γ MX0_spread d 3 [some (.ref v0), some (.ref v1), some (.int v2), some (.int v3), some (.int v4)] [] σ Q := by
  refine EV.iload 5 rfl rfl dX0_spread_3 ?_
  refine EV.iload_n 6 rfl 2 rfl rfl dX0_spread_5 ?_
  refine EV.icmp_ge 9 42 rfl (by decide) dX0_spread_6 (fun c1 => ?_) (fun c1 => ?_)
  · have h := h.1 c1
    exact EV.vret rfl dX0_spread_42 h
  · have h := h.2 c1
    refine EV.iload 11 rfl rfl dX0_spread_9 ?_
    refine EV.aload_n 12 rfl 1 rfl rfl dX0_spread_11 ?_
    obtain ⟨n3, w2, h⟩ := h
    refine EV.alenI 13 rfl dX0_spread_12 w2 ?_
    refine EV.icmp_ge 16 42 rfl (by decide) dX0_spread_13 (fun c4 => ?_) (fun c4 => ?_)
    · have h := h.1 c4
      exact EV.vret rfl dX0_spread_42 h
    · have h := h.2 c4
      refine EV.aload_n 17 rfl 1 rfl rfl dX0_spread_16 ?_
      refine EV.iload 19 rfl rfl dX0_spread_17 ?_
      refine EV.aload_n 20 rfl 0 rfl rfl dX0_spread_19 ?_
      refine EV.iload 22 rfl rfl dX0_spread_20 ?_
      refine EV.iload_n 23 rfl 3 rfl rfl dX0_spread_22 ?_
      refine EV.ixor 24 rfl dX0_spread_23 ?_
      refine EV.cS rfl lk_X0_115 rfl (vs := [.ref v0, .int (v4 ^^^ v3)]) (st := [.int v4, .ref v1]) rfl rfl (Nat.le_of_ble_eq_true rfl) dX0_spread_24 h (fun v σ5 h => ?_)
      obtain ⟨r6, rfl, h⟩ := h
      show EV Γ MX0_spread d 27 [some (.ref v0), some (.ref v1), some (.int v2), some (.int v3), some (.int v4)] [.int r6, .int v4, .ref v1] σ5 Q
      refine EV.if_eq 30 34 rfl (by decide) dX0_spread_27 (fun c7 => ?_) (fun c7 => ?_)
      · have h := h.1 c7
        refine EV.iconst 35 rfl dX0_spread_34 (v := 0) (by decide) ?_
        obtain ⟨n9, w8, h⟩ := h
        obtain ⟨j10, x11, h⟩ := h
        refine EV.iast 36 rfl dX0_spread_35 w8 x11 (EV.nm (fun σ12 e13 => ?_))
        have h := h σ12 e13
        have w14 := tr_hs (hs_setI_of e13) w8
        refine EV.iinc 39 rfl [some (.ref v0), some (.ref v1), some (.int v2), some (.int v3), some (.int (v4 + 1))] (v := 1) (by decide) (by decide) rfl rfl dX0_spread_36 ?_
        refine EV.goto 3 (by decide) dX0_spread_39 ?_
        exact h
      · have h := h.2 c7
        refine EV.iconst 31 rfl dX0_spread_30 (v := 1) (by decide) ?_
        refine EV.goto 35 (by decide) dX0_spread_31 ?_
        obtain ⟨n16, w15, h⟩ := h
        obtain ⟨j17, x18, h⟩ := h
        refine EV.iast 36 rfl dX0_spread_35 w15 x18 (EV.nm (fun σ19 e20 => ?_))
        have h := h σ19 e20
        have w21 := tr_hs (hs_setI_of e20) w15
        refine EV.iinc 39 rfl [some (.ref v0), some (.ref v1), some (.int v2), some (.int v3), some (.int (v4 + 1))] (v := 1) (by decide) (by decide) rfl rfl dX0_spread_36 ?_
        refine EV.goto 3 (by decide) dX0_spread_39 ?_
        exact h
theorem gX0_sumSubsets_0 {Γ : Gm} {d : Nat} {σ : AH} {Q : Oc → AH → Prop} {v0 : Nat} {v1 : Int32} {v2 : Int32} (h : EV Γ MX0_sumSubsets d 2 [some (.ref v0), some (.int v1), some (.int v2), some (.int 1), none] [] σ Q) : EV Γ MX0_sumSubsets d 0 [some (.ref v0), some (.int v1), some (.int v2), none, none] [] σ Q := by
  refine EV.iconst 1 rfl dX0_sumSubsets_0 (v := 1) (by decide) ?_
  refine EV.istore_n 2 rfl 3 [some (.ref v0), some (.int v1), some (.int v2), some (.int 1), none] rfl (by decide) rfl dX0_sumSubsets_1 ?_
  exact h
theorem eX0_sumSubsets {Γ : Gm} {d : Nat} {σ : AH} {Q : Oc → AH → Prop} {v0 : Nat} {v1 : Int32} {v2 : Int32} (h : EV Γ MX0_sumSubsets d 2 [some (.ref v0), some (.int v1), some (.int v2), some (.int 1), none] [] σ Q) : RUN Γ d MX0_sumSubsets [.ref v0, .int v1, .int v2] σ Q :=
  EV.enter [some (.ref v0), some (.int v1), some (.int v2), none, none] rfl (by decide +kernel) (Nat.le_of_ble_eq_true rfl) rfl (gX0_sumSubsets_0 h)
theorem gX0_sumSubsets_2 {Γ : Gm} {d : Nat} {σ : AH} {Q : Oc → AH → Prop} {v0 : Nat} {v1 : Int32} {v2 : Int32} {v3 : Int32} (h : ((v1 ≤ v3 → Q (.inl none) σ) ∧ (¬ v1 ≤ v3 → EV Γ MX0_sumSubsets d 10 [some (.ref v0), some (.int v1), some (.int v2), some (.int v3), some (.int v3)] [] σ Q))) : EV Γ MX0_sumSubsets d 2 [some (.ref v0), some (.int v1), some (.int v2), some (.int v3), none] [] σ Q := by
  refine EV.iload_n 3 rfl 3 rfl rfl dX0_sumSubsets_2 ?_
  refine EV.iload_n 4 rfl 1 rfl rfl dX0_sumSubsets_3 ?_
  refine EV.icmp_ge 7 58 rfl (by decide) dX0_sumSubsets_4 (fun c1 => ?_) (fun c1 => ?_)
  · have h := h.1 c1
    exact EV.vret rfl dX0_sumSubsets_58 h
  · have h := h.2 c1
    refine EV.iload_n 8 rfl 3 rfl rfl dX0_sumSubsets_7 ?_
    refine EV.istore 10 rfl [some (.ref v0), some (.int v1), some (.int v2), some (.int v3), some (.int v3)] (by decide) rfl dX0_sumSubsets_8 ?_
    exact h
theorem gX0_sumSubsets_10 {Γ : Gm} {d : Nat} {σ : AH} {Q : Oc → AH → Prop} {v0 : Nat} {v1 : Int32} {v2 : Int32} {v3 : Int32} {v4 : Int32} (h : ((v1 ≤ v4 → EV Γ MX0_sumSubsets d 2 [some (.ref v0), some (.int v1), some (.int v2), some (.int (v3 * 2)), none] [] σ Q) ∧ (¬ v1 ≤ v4 → ∃ n3 : Nat, hs σ v0 = some (22, n3) ∧ (((nI n3) ≤ v4 → EV Γ MX0_sumSubsets d 2 [some (.ref v0), some (.int v1), some (.int v2), some (.int (v3 * 2)), none] [] σ Q) ∧ (¬ (nI n3) ≤ v4 → (((v4 &&& v3) = 0 → EV Γ MX0_sumSubsets d 10 [some (.ref v0), some (.int v1), some (.int v2), some (.int v3), some (.int (v4 + 1))] [] σ Q) ∧ (¬ (v4 &&& v3) = 0 → ∃ j6 : Nat, IX v4 n3 j6 ∧ ∃ j8 : Nat, IX (v4 - v3) n3 j8 ∧ ∀ σ10 : AH, σ10 = setI σ v0 j6 ((gi σ v0 j6) + (v2 * (gi σ v0 j8))) → EV Γ MX0_sumSubsets d 10 [some (.ref v0), some (.int v1), some (.int v2), some (.int v3), some (.int (v4 + 1))] [] σ10 Q))))))) : EV Γ MX0_sumSubsets d 10 [some (.ref v0), some (.int v1), some (.int v2), some (.int v3), some (.int v4)] [] σ Q := by
  refine EV.iload 12 rfl rfl dX0_sumSubsets_10 ?_
  refine EV.iload_n 13 rfl 1 rfl rfl dX0_sumSubsets_12 ?_
  refine EV.icmp_ge 16 51 rfl (by decide) dX0_sumSubsets_13 (fun c1 => ?_) (fun c1 => ?_)
  · have h := h.1 c1
    refine EV.iload_n 52 rfl 3 rfl rfl dX0_sumSubsets_51 ?_
    refine EV.iconst 53 rfl dX0_sumSubsets_52 (v := 2) (by decide) ?_
    refine EV.imul 54 rfl dX0_sumSubsets_53 ?_
    refine EV.istore_n 55 rfl 3 [some (.ref v0), some (.int v1), some (.int v2), some (.int (v3 * 2)), some (.int v4)] rfl (by decide) rfl dX0_sumSubsets_54 ?_
    refine EV.goto 2 (by decide) dX0_sumSubsets_55 ?_
    refine EV.mask [true, true, true, true, false] (L' := [some (.ref v0), some (.int v1), some (.int v2), some (.int (v3 * 2)), none]) rfl ?_
    exact h
  · have h := h.2 c1
    refine EV.iload 18 rfl rfl dX0_sumSubsets_16 ?_
    refine EV.aload_n 19 rfl 0 rfl rfl dX0_sumSubsets_18 ?_
    obtain ⟨n3, w2, h⟩ := h
    refine EV.alenI 20 rfl dX0_sumSubsets_19 w2 ?_
    refine EV.icmp_ge 23 51 rfl (by decide) dX0_sumSubsets_20 (fun c4 => ?_) (fun c4 => ?_)
    · have h := h.1 c4
      refine EV.iload_n 52 rfl 3 rfl rfl dX0_sumSubsets_51 ?_
      refine EV.iconst 53 rfl dX0_sumSubsets_52 (v := 2) (by decide) ?_
      refine EV.imul 54 rfl dX0_sumSubsets_53 ?_
      refine EV.istore_n 55 rfl 3 [some (.ref v0), some (.int v1), some (.int v2), some (.int (v3 * 2)), some (.int v4)] rfl (by decide) rfl dX0_sumSubsets_54 ?_
      refine EV.goto 2 (by decide) dX0_sumSubsets_55 ?_
      refine EV.mask [true, true, true, true, false] (L' := [some (.ref v0), some (.int v1), some (.int v2), some (.int (v3 * 2)), none]) rfl ?_
      exact h
    · have h := h.2 c4
      refine EV.iload 25 rfl rfl dX0_sumSubsets_23 ?_
      refine EV.iload_n 26 rfl 3 rfl rfl dX0_sumSubsets_25 ?_
      refine EV.iand 27 rfl dX0_sumSubsets_26 ?_
      refine EV.if_eq 30 45 rfl (by decide) dX0_sumSubsets_27 (fun c5 => ?_) (fun c5 => ?_)
      · have h := h.1 c5
        refine EV.iinc 48 rfl [some (.ref v0), some (.int v1), some (.int v2), some (.int v3), some (.int (v4 + 1))] (v := 1) (by decide) (by decide) rfl rfl dX0_sumSubsets_45 ?_
        refine EV.goto 10 (by decide) dX0_sumSubsets_48 ?_
        exact h
      · have h := h.2 c5
        refine EV.aload_n 31 rfl 0 rfl rfl dX0_sumSubsets_30 ?_
        refine EV.iload 33 rfl rfl dX0_sumSubsets_31 ?_
        refine EV.dup2 34 rfl dX0_sumSubsets_33 rfl rfl ?_
        obtain ⟨j6, x7, h⟩ := h
        refine EV.iald 35 rfl dX0_sumSubsets_34 w2 x7 ?_
        refine EV.iload_n 36 rfl 2 rfl rfl dX0_sumSubsets_35 ?_
        refine EV.aload_n 37 rfl 0 rfl rfl dX0_sumSubsets_36 ?_
        refine EV.iload 39 rfl rfl dX0_sumSubsets_37 ?_
        refine EV.iload_n 40 rfl 3 rfl rfl dX0_sumSubsets_39 ?_
        refine EV.isub 41 rfl dX0_sumSubsets_40 ?_
        obtain ⟨j8, x9, h⟩ := h
        refine EV.iald 42 rfl dX0_sumSubsets_41 w2 x9 ?_
        refine EV.imul 43 rfl dX0_sumSubsets_42 ?_
        refine EV.iadd 44 rfl dX0_sumSubsets_43 ?_
        refine EV.iast 45 rfl dX0_sumSubsets_44 w2 x7 (EV.nm (fun σ10 e11 => ?_))
        have h := h σ10 e11
        have w12 := tr_hs (hs_setI_of e11) w2
        refine EV.iinc 48 rfl [some (.ref v0), some (.int v1), some (.int v2), some (.int v3), some (.int (v4 + 1))] (v := 1) (by decide) (by decide) rfl rfl dX0_sumSubsets_45 ?_
        refine EV.goto 10 (by decide) dX0_sumSubsets_48 ?_
        exact h
theorem gX0_divide_0 {Γ : Gm} {d : Nat} {σ : AH} {Q : Oc → AH → Prop} {v0 : Nat} {v1 : Nat} {v2 : Nat} (h : hs σ v0 = some (0, 4) ∧ ∃ t2 : Nat, gr σ v0 0 = some t2 ∧ CI Γ d MX7_list [.ref v2, .ref t2] σ (fun r5 σ4 => EV Γ MX0_divide d 15 [some (.ref v0), some (.ref v1), none, some (.int r5), some (.int 0), some (.int 0), none] [] σ4 Q) (fun _ _ => False)) : EV Γ MX0_divide d 0 [some (.ref v0), some (.ref v1), some (.ref v2), none, none, none, none] [] σ Q := by
  refine EV.aload_n 1 rfl 2 rfl rfl dX0_divide_0 ?_
  refine EV.aload_n 2 rfl 0 rfl rfl dX0_divide_1 ?_
  obtain ⟨w1, h⟩ := h
  obtain ⟨t2, g3, h⟩ := h
  refine EV.getR 5 rfl fl_X0_18 rfl dX0_divide_2 w1 g3 ?_
  refine EV.cS rfl lk_X0_86 rfl (vs := [.ref v2, .ref t2]) (st := []) rfl rfl (Nat.le_of_ble_eq_true rfl) dX0_divide_5 h (fun v σ4 h => ?_)
  obtain ⟨r5, rfl, h⟩ := h
  show EV Γ MX0_divide d 8 [some (.ref v0), some (.ref v1), some (.ref v2), none, none, none, none] [.int r5] σ4 Q
  refine EV.istore_n 9 rfl 3 [some (.ref v0), some (.ref v1), some (.ref v2), some (.int r5), none, none, none] rfl (by decide) rfl dX0_divide_8 ?_
  refine EV.iconst 10 rfl dX0_divide_9 (v := 0) (by decide) ?_
  refine EV.istore 12 rfl [some (.ref v0), some (.ref v1), some (.ref v2), some (.int r5), some (.int 0), none, none] (by decide) rfl dX0_divide_10 ?_
  refine EV.iconst 13 rfl dX0_divide_12 (v := 0) (by decide) ?_
  refine EV.istore 15 rfl [some (.ref v0), some (.ref v1), some (.ref v2), some (.int r5), some (.int 0), some (.int 0), none] (by decide) rfl dX0_divide_13 ?_
  refine EV.mask [true, true, false, true, true, true, false] (L' := [some (.ref v0), some (.ref v1), none, some (.int r5), some (.int 0), some (.int 0), none]) rfl ?_
  exact h
theorem eX0_divide {Γ : Gm} {d : Nat} {σ : AH} {Q : Oc → AH → Prop} {v0 : Nat} {v1 : Nat} {v2 : Nat} (h : hs σ v0 = some (0, 4) ∧ ∃ t2 : Nat, gr σ v0 0 = some t2 ∧ CI Γ d MX7_list [.ref v2, .ref t2] σ (fun r5 σ4 => EV Γ MX0_divide d 15 [some (.ref v0), some (.ref v1), none, some (.int r5), some (.int 0), some (.int 0), none] [] σ4 Q) (fun _ _ => False)) : RUN Γ d MX0_divide [.ref v0, .ref v1, .ref v2] σ Q :=
  EV.enter [some (.ref v0), some (.ref v1), some (.ref v2), none, none, none, none] rfl (by decide +kernel) (Nat.le_of_ble_eq_true rfl) rfl (gX0_divide_0 h)
theorem gX0_divide_15 {Γ : Gm} {d : Nat} {σ : AH} {Q : Oc → AH → Prop} {v0 : Nat} {v1 : Nat} {v3 : Int32} {v4 : Int32} {v5 : Int32} (h : ((v3 ≤ v5 → EV Γ MX0_divide d 47 [some (.ref v0), some (.ref v1), none, some (.int v3), some (.int v4), none, none] [] σ Q) ∧ (¬ v3 ≤ v5 → ((4096 ≤ v5 → EV Γ MX0_divide d 47 [some (.ref v0), some (.ref v1), none, some (.int v3), some (.int v4), none, none] [] σ Q) ∧ (¬ 4096 ≤ v5 → hs σ v0 = some (0, 4) ∧ ∃ t4 : Nat, gr σ v0 0 = some t4 ∧ ∃ n7 : Nat, hs σ t4 = some (22, n7) ∧ ∃ j8 : Nat, IX v5 n7 j8 ∧ EV Γ MX0_divide d 15 [some (.ref v0), some (.ref v1), none, some (.int v3), some (.int (v4 ||| (gi σ t4 j8))), some (.int (v5 + 1)), none] [] σ Q))))) : EV Γ MX0_divide d 15 [some (.ref v0), some (.ref v1), none, some (.int v3), some (.int v4), some (.int v5), none] [] σ Q := by
  refine EV.iload 17 rfl rfl dX0_divide_15 ?_
  refine EV.iload_n 18 rfl 3 rfl rfl dX0_divide_17 ?_
  refine EV.icmp_ge 21 47 rfl (by decide) dX0_divide_18 (fun c1 => ?_) (fun c1 => ?_)
  · have h := h.1 c1
    refine EV.mask [true, true, false, true, true, false, false] (L' := [some (.ref v0), some (.ref v1), none, some (.int v3), some (.int v4), none, none]) rfl ?_
    exact h
  · have h := h.2 c1
    refine EV.iload 23 rfl rfl dX0_divide_21 ?_
    refine EV.sipush 26 rfl dX0_divide_23 (v := 4096) (by decide) ?_
    refine EV.icmp_ge 29 47 rfl (by decide) dX0_divide_26 (fun c2 => ?_) (fun c2 => ?_)
    · have h := h.1 c2
      refine EV.mask [true, true, false, true, true, false, false] (L' := [some (.ref v0), some (.ref v1), none, some (.int v3), some (.int v4), none, none]) rfl ?_
      exact h
    · have h := h.2 c2
      refine EV.iload 31 rfl rfl dX0_divide_29 ?_
      refine EV.aload_n 32 rfl 0 rfl rfl dX0_divide_31 ?_
      obtain ⟨w3, h⟩ := h
      obtain ⟨t4, g5, h⟩ := h
      refine EV.getR 35 rfl fl_X0_18 rfl dX0_divide_32 w3 g5 ?_
      refine EV.iload 37 rfl rfl dX0_divide_35 ?_
      obtain ⟨n7, w6, h⟩ := h
      obtain ⟨j8, x9, h⟩ := h
      refine EV.iald 38 rfl dX0_divide_37 w6 x9 ?_
      refine EV.ior 39 rfl dX0_divide_38 ?_
      refine EV.istore 41 rfl [some (.ref v0), some (.ref v1), none, some (.int v3), some (.int (v4 ||| (gi σ t4 j8))), some (.int v5), none] (by decide) rfl dX0_divide_39 ?_
      refine EV.iinc 44 rfl [some (.ref v0), some (.ref v1), none, some (.int v3), some (.int (v4 ||| (gi σ t4 j8))), some (.int (v5 + 1)), none] (v := 1) (by decide) (by decide) rfl rfl dX0_divide_41 ?_
      refine EV.goto 15 (by decide) dX0_divide_44 ?_
      exact h
theorem gX0_divide_47 {Γ : Gm} {d : Nat} {σ : AH} {Q : Oc → AH → Prop} {v0 : Nat} {v1 : Nat} {v3 : Int32} {v4 : Int32} (h : CI Γ d MX7_span [.ref v1] σ (fun r2 σ1 => hs σ1 v0 = some (0, 4) ∧ ∃ t4 : Nat, gr σ1 v0 2 = some t4 ∧ CV Γ d MJ7_fill_d0a16 [.ref t4, .long 0] σ1 (fun σ6 => EV Γ MX0_divide d 64 [some (.ref v0), some (.ref v1), none, some (.int v3), some (.int v4), some (.int r2), some (.int 0)] [] σ6 Q) (fun _ _ => False)) (fun _ _ => False)) : EV Γ MX0_divide d 47 [some (.ref v0), some (.ref v1), none, some (.int v3), some (.int v4), none, none] [] σ Q := by
  refine EV.aload_n 48 rfl 1 rfl rfl dX0_divide_47 ?_
  refine EV.cS rfl lk_X0_97 rfl (vs := [.ref v1]) (st := []) rfl rfl (Nat.le_of_ble_eq_true rfl) dX0_divide_48 h (fun v σ1 h => ?_)
  obtain ⟨r2, rfl, h⟩ := h
  show EV Γ MX0_divide d 51 [some (.ref v0), some (.ref v1), none, some (.int v3), some (.int v4), none, none] [.int r2] σ1 Q
  refine EV.istore 53 rfl [some (.ref v0), some (.ref v1), none, some (.int v3), some (.int v4), some (.int r2), none] (by decide) rfl dX0_divide_51 ?_
  refine EV.aload_n 54 rfl 0 rfl rfl dX0_divide_53 ?_
  obtain ⟨w3, h⟩ := h
  obtain ⟨t4, g5, h⟩ := h
  refine EV.getR 57 rfl fl_X0_9 rfl dX0_divide_54 w3 g5 ?_
  refine EV.lconst 58 rfl dX0_divide_57 (v := 0) (by decide) ?_
  refine EV.cS rfl lk_X0_70 rfl (vs := [.ref t4, .long 0]) (st := []) rfl rfl (Nat.le_of_ble_eq_true rfl) dX0_divide_58 h (fun v σ6 h => ?_)
  obtain ⟨rfl, h⟩ := h
  show EV Γ MX0_divide d 61 [some (.ref v0), some (.ref v1), none, some (.int v3), some (.int v4), some (.int r2), none] [] σ6 Q
  refine EV.iconst 62 rfl dX0_divide_61 (v := 0) (by decide) ?_
  refine EV.istore 64 rfl [some (.ref v0), some (.ref v1), none, some (.int v3), some (.int v4), some (.int r2), some (.int 0)] (by decide) rfl dX0_divide_62 ?_
  exact h
theorem gX0_divide_64 {Γ : Gm} {d : Nat} {σ : AH} {Q : Oc → AH → Prop} {v0 : Nat} {v1 : Nat} {v3 : Int32} {v4 : Int32} {v5 : Int32} {v6 : Int32} (h : ((v5 ≤ v6 → Q (.inl (some (.int v3))) σ) ∧ (¬ v5 ≤ v6 → ((4096 ≤ v6 → Q (.inl (some (.int v3))) σ) ∧ (¬ 4096 ≤ v6 → (((v6 &&& v4) ≠ 0 → EV Γ MX0_divide d 64 [some (.ref v0), some (.ref v1), none, some (.int v3), some (.int v4), some (.int v5), some (.int (v6 + 1))] [] σ Q) ∧ ((v6 &&& v4) = 0 → hs σ v0 = some (0, 4) ∧ CI Γ d MX0_hasAllWith [.ref v0, .ref v1, .int v6, .int v3] σ (fun r5 σ4 => ((r5 = 0 → EV Γ MX0_divide d 64 [some (.ref v0), some (.ref v1), none, some (.int v3), some (.int v4), some (.int v5), some (.int (v6 + 1))] [] σ4 Q) ∧ (¬ r5 = 0 → hs σ4 v0 = some (0, 4) ∧ ∃ t9 : Nat, gr σ4 v0 2 = some t9 ∧ CV Γ d MX7_put [.ref t9, .int v6] σ4 (fun σ11 => EV Γ MX0_divide d 64 [some (.ref v0), some (.ref v1), none, some (.int v3), some (.int v4), some (.int v5), some (.int (v6 + 1))] [] σ11 Q) (fun _ _ => False)))) (fun E σ4 => Q (.inr E) σ4)))))))) : EV Γ MX0_divide d 64 [some (.ref v0), some (.ref v1), none, some (.int v3), some (.int v4), some (.int v5), some (.int v6)] [] σ Q := by
  refine EV.iload 66 rfl rfl dX0_divide_64 ?_
  refine EV.iload 68 rfl rfl dX0_divide_66 ?_
  refine EV.icmp_ge 71 113 rfl (by decide) dX0_divide_68 (fun c1 => ?_) (fun c1 => ?_)
  · have h := h.1 c1
    refine EV.iload_n 114 rfl 3 rfl rfl dX0_divide_113 ?_
    exact EV.iret rfl dX0_divide_114 h
  · have h := h.2 c1
    refine EV.iload 73 rfl rfl dX0_divide_71 ?_
    refine EV.sipush 76 rfl dX0_divide_73 (v := 4096) (by decide) ?_
    refine EV.icmp_ge 79 113 rfl (by decide) dX0_divide_76 (fun c2 => ?_) (fun c2 => ?_)
    · have h := h.1 c2
      refine EV.iload_n 114 rfl 3 rfl rfl dX0_divide_113 ?_
      exact EV.iret rfl dX0_divide_114 h
    · have h := h.2 c2
      refine EV.iload 81 rfl rfl dX0_divide_79 ?_
      refine EV.iload 83 rfl rfl dX0_divide_81 ?_
      refine EV.iand 84 rfl dX0_divide_83 ?_
      refine EV.if_ne 87 107 rfl (by decide) dX0_divide_84 (fun c3 => ?_) (fun c3 => ?_)
      · have h := h.1 c3
        refine EV.iinc 110 rfl [some (.ref v0), some (.ref v1), none, some (.int v3), some (.int v4), some (.int v5), some (.int (v6 + 1))] (v := 1) (by decide) (by decide) rfl rfl dX0_divide_107 ?_
        refine EV.goto 64 (by decide) dX0_divide_110 ?_
        exact h
      · have h := h.2 c3
        refine EV.aload_n 88 rfl 0 rfl rfl dX0_divide_87 ?_
        refine EV.aload_n 89 rfl 1 rfl rfl dX0_divide_88 ?_
        refine EV.iload 91 rfl rfl dX0_divide_89 ?_
        refine EV.iload_n 92 rfl 3 rfl rfl dX0_divide_91 ?_
        obtain ⟨w6, h⟩ := h
        refine EV.cV rfl rfl lk_X0_119 rfl (vs := [.ref v1, .int v6, .int v3]) (st := []) rfl rfl (Nat.le_of_ble_eq_true rfl) dX0_divide_92 w6 h (fun v σ4 h => ?_)
        obtain ⟨r5, rfl, h⟩ := h
        show EV Γ MX0_divide d 95 [some (.ref v0), some (.ref v1), none, some (.int v3), some (.int v4), some (.int v5), some (.int v6)] [.int r5] σ4 Q
        refine EV.if_eq 98 107 rfl (by decide) dX0_divide_95 (fun c7 => ?_) (fun c7 => ?_)
        · have h := h.1 c7
          refine EV.iinc 110 rfl [some (.ref v0), some (.ref v1), none, some (.int v3), some (.int v4), some (.int v5), some (.int (v6 + 1))] (v := 1) (by decide) (by decide) rfl rfl dX0_divide_107 ?_
          refine EV.goto 64 (by decide) dX0_divide_110 ?_
          exact h
        · have h := h.2 c7
          refine EV.aload_n 99 rfl 0 rfl rfl dX0_divide_98 ?_
          obtain ⟨w8, h⟩ := h
          obtain ⟨t9, g10, h⟩ := h
          refine EV.getR 102 rfl fl_X0_9 rfl dX0_divide_99 w8 g10 ?_
          refine EV.iload 104 rfl rfl dX0_divide_102 ?_
          refine EV.cS rfl lk_X0_94 rfl (vs := [.ref t9, .int v6]) (st := []) rfl rfl (Nat.le_of_ble_eq_true rfl) dX0_divide_104 h (fun v σ11 h => ?_)
          obtain ⟨rfl, h⟩ := h
          show EV Γ MX0_divide d 107 [some (.ref v0), some (.ref v1), none, some (.int v3), some (.int v4), some (.int v5), some (.int v6)] [] σ11 Q
          refine EV.iinc 110 rfl [some (.ref v0), some (.ref v1), none, some (.int v3), some (.int v4), some (.int v5), some (.int (v6 + 1))] (v := 1) (by decide) (by decide) rfl rfl dX0_divide_107 ?_
          refine EV.goto 64 (by decide) dX0_divide_110 ?_
          exact h
theorem gX0_hasAllWith_0 {Γ : Gm} {d : Nat} {σ : AH} {Q : Oc → AH → Prop} {v0 : Nat} {v1 : Nat} {v2 : Int32} {v3 : Int32} (h : EV Γ MX0_hasAllWith d 3 [some (.ref v0), some (.ref v1), some (.int v2), some (.int v3), some (.int 0)] [] σ Q) : EV Γ MX0_hasAllWith d 0 [some (.ref v0), some (.ref v1), some (.int v2), some (.int v3), none] [] σ Q := by
  refine EV.iconst 1 rfl dX0_hasAllWith_0 (v := 0) (by decide) ?_
  refine EV.istore 3 rfl [some (.ref v0), some (.ref v1), some (.int v2), some (.int v3), some (.int 0)] (by decide) rfl dX0_hasAllWith_1 ?_
  exact h
theorem eX0_hasAllWith {Γ : Gm} {d : Nat} {σ : AH} {Q : Oc → AH → Prop} {v0 : Nat} {v1 : Nat} {v2 : Int32} {v3 : Int32} (h : EV Γ MX0_hasAllWith d 3 [some (.ref v0), some (.ref v1), some (.int v2), some (.int v3), some (.int 0)] [] σ Q) : RUN Γ d MX0_hasAllWith [.ref v0, .ref v1, .int v2, .int v3] σ Q :=
  EV.enter [some (.ref v0), some (.ref v1), some (.int v2), some (.int v3), none] rfl (by decide +kernel) (Nat.le_of_ble_eq_true rfl) rfl (gX0_hasAllWith_0 h)
theorem gX0_hasAllWith_3 {Γ : Gm} {d : Nat} {σ : AH} {Q : Oc → AH → Prop} {v0 : Nat} {v1 : Nat} {v2 : Int32} {v3 : Int32} {v4 : Int32} (h : ((v3 ≤ v4 → Q (.inl (some (.int 1))) σ) ∧ (¬ v3 ≤ v4 → ((4096 ≤ v4 → Q (.inl (some (.int 1))) σ) ∧ (¬ 4096 ≤ v4 → hs σ v0 = some (0, 4) ∧ ∃ t4 : Nat, gr σ v0 0 = some t4 ∧ ∃ n7 : Nat, hs σ t4 = some (22, n7) ∧ ∃ j8 : Nat, IX v4 n7 j8 ∧ CI Γ d MX7_has [.ref v1, .int (v2 ||| (gi σ t4 j8))] σ (fun r11 σ10 => ((r11 ≠ 0 → EV Γ MX0_hasAllWith d 3 [some (.ref v0), some (.ref v1), some (.int v2), some (.int v3), some (.int (v4 + 1))] [] σ10 Q) ∧ (r11 = 0 → Q (.inl (some (.int 0))) σ10))) (fun _ _ => False)))))) : EV Γ MX0_hasAllWith d 3 [some (.ref v0), some (.ref v1), some (.int v2), some (.int v3), some (.int v4)] [] σ Q := by
  refine EV.iload 5 rfl rfl dX0_hasAllWith_3 ?_
  refine EV.iload_n 6 rfl 3 rfl rfl dX0_hasAllWith_5 ?_
  refine EV.icmp_ge 9 41 rfl (by decide) dX0_hasAllWith_6 (fun c1 => ?_) (fun c1 => ?_)
  · have h := h.1 c1
    refine EV.iconst 42 rfl dX0_hasAllWith_41 (v := 1) (by decide) ?_
    exact EV.zret rfl rfl dX0_hasAllWith_42 h
  · have h := h.2 c1
    refine EV.iload 11 rfl rfl dX0_hasAllWith_9 ?_
    refine EV.sipush 14 rfl dX0_hasAllWith_11 (v := 4096) (by decide) ?_
    refine EV.icmp_ge 17 41 rfl (by decide) dX0_hasAllWith_14 (fun c2 => ?_) (fun c2 => ?_)
    · have h := h.1 c2
      refine EV.iconst 42 rfl dX0_hasAllWith_41 (v := 1) (by decide) ?_
      exact EV.zret rfl rfl dX0_hasAllWith_42 h
    · have h := h.2 c2
      refine EV.aload_n 18 rfl 1 rfl rfl dX0_hasAllWith_17 ?_
      refine EV.iload_n 19 rfl 2 rfl rfl dX0_hasAllWith_18 ?_
      refine EV.aload_n 20 rfl 0 rfl rfl dX0_hasAllWith_19 ?_
      obtain ⟨w3, h⟩ := h
      obtain ⟨t4, g5, h⟩ := h
      refine EV.getR 23 rfl fl_X0_18 rfl dX0_hasAllWith_20 w3 g5 ?_
      refine EV.iload 25 rfl rfl dX0_hasAllWith_23 ?_
      obtain ⟨n7, w6, h⟩ := h
      obtain ⟨j8, x9, h⟩ := h
      refine EV.iald 26 rfl dX0_hasAllWith_25 w6 x9 ?_
      refine EV.ior 27 rfl dX0_hasAllWith_26 ?_
      refine EV.cS rfl lk_X0_115 rfl (vs := [.ref v1, .int (v2 ||| (gi σ t4 j8))]) (st := []) rfl rfl (Nat.le_of_ble_eq_true rfl) dX0_hasAllWith_27 h (fun v σ10 h => ?_)
      obtain ⟨r11, rfl, h⟩ := h
      show EV Γ MX0_hasAllWith d 30 [some (.ref v0), some (.ref v1), some (.int v2), some (.int v3), some (.int v4)] [.int r11] σ10 Q
      refine EV.if_ne 33 35 rfl (by decide) dX0_hasAllWith_30 (fun c12 => ?_) (fun c12 => ?_)
      · have h := h.1 c12
        refine EV.iinc 38 rfl [some (.ref v0), some (.ref v1), some (.int v2), some (.int v3), some (.int (v4 + 1))] (v := 1) (by decide) (by decide) rfl rfl dX0_hasAllWith_35 ?_
        refine EV.goto 3 (by decide) dX0_hasAllWith_38 ?_
        exact h
      · have h := h.2 c12
        refine EV.iconst 34 rfl dX0_hasAllWith_33 (v := 0) (by decide) ?_
        exact EV.zret rfl rfl dX0_hasAllWith_34 h
theorem gX0_removeProducts_0 {Γ : Gm} {d : Nat} {σ : AH} {Q : Oc → AH → Prop} {v0 : Nat} {v1 : Nat} {v2 : Int32} (h : hs σ v0 = some (0, 4) ∧ ∃ t2 : Nat, gr σ v0 2 = some t2 ∧ ∃ t4 : Nat, gr σ v0 1 = some t4 ∧ CI Γ d MX7_list [.ref t2, .ref t4] σ (fun r7 σ6 => EV Γ MX0_removeProducts d 15 [some (.ref v0), some (.ref v1), some (.int v2), some (.int r7), some (.int 0), none] [] σ6 Q) (fun _ _ => False)) : EV Γ MX0_removeProducts d 0 [some (.ref v0), some (.ref v1), some (.int v2), none, none, none] [] σ Q := by
  refine EV.aload_n 1 rfl 0 rfl rfl dX0_removeProducts_0 ?_
  obtain ⟨w1, h⟩ := h
  obtain ⟨t2, g3, h⟩ := h
  refine EV.getR 4 rfl fl_X0_9 rfl dX0_removeProducts_1 w1 g3 ?_
  refine EV.aload_n 5 rfl 0 rfl rfl dX0_removeProducts_4 ?_
  obtain ⟨t4, g5, h⟩ := h
  refine EV.getR 8 rfl fl_X0_22 rfl dX0_removeProducts_5 w1 g5 ?_
  refine EV.cS rfl lk_X0_86 rfl (vs := [.ref t2, .ref t4]) (st := []) rfl rfl (Nat.le_of_ble_eq_true rfl) dX0_removeProducts_8 h (fun v σ6 h => ?_)
  obtain ⟨r7, rfl, h⟩ := h
  show EV Γ MX0_removeProducts d 11 [some (.ref v0), some (.ref v1), some (.int v2), none, none, none] [.int r7] σ6 Q
  refine EV.istore_n 12 rfl 3 [some (.ref v0), some (.ref v1), some (.int v2), some (.int r7), none, none] rfl (by decide) rfl dX0_removeProducts_11 ?_
  refine EV.iconst 13 rfl dX0_removeProducts_12 (v := 0) (by decide) ?_
  refine EV.istore 15 rfl [some (.ref v0), some (.ref v1), some (.int v2), some (.int r7), some (.int 0), none] (by decide) rfl dX0_removeProducts_13 ?_
  exact h
theorem eX0_removeProducts {Γ : Gm} {d : Nat} {σ : AH} {Q : Oc → AH → Prop} {v0 : Nat} {v1 : Nat} {v2 : Int32} (h : hs σ v0 = some (0, 4) ∧ ∃ t2 : Nat, gr σ v0 2 = some t2 ∧ ∃ t4 : Nat, gr σ v0 1 = some t4 ∧ CI Γ d MX7_list [.ref t2, .ref t4] σ (fun r7 σ6 => EV Γ MX0_removeProducts d 15 [some (.ref v0), some (.ref v1), some (.int v2), some (.int r7), some (.int 0), none] [] σ6 Q) (fun _ _ => False)) : RUN Γ d MX0_removeProducts [.ref v0, .ref v1, .int v2] σ Q :=
  EV.enter [some (.ref v0), some (.ref v1), some (.int v2), none, none, none] rfl (by decide +kernel) (Nat.le_of_ble_eq_true rfl) rfl (gX0_removeProducts_0 h)
theorem gX0_removeProducts_15 {Γ : Gm} {d : Nat} {σ : AH} {Q : Oc → AH → Prop} {v0 : Nat} {v1 : Nat} {v2 : Int32} {v3 : Int32} {v4 : Int32} (h : ((v3 ≤ v4 → Q (.inl none) σ) ∧ (¬ v3 ≤ v4 → ((4096 ≤ v4 → Q (.inl none) σ) ∧ (¬ 4096 ≤ v4 → EV Γ MX0_removeProducts d 32 [some (.ref v0), some (.ref v1), some (.int v2), some (.int v3), some (.int v4), some (.int 0)] [] σ Q))))) : EV Γ MX0_removeProducts d 15 [some (.ref v0), some (.ref v1), some (.int v2), some (.int v3), some (.int v4), none] [] σ Q := by
  refine EV.iload 17 rfl rfl dX0_removeProducts_15 ?_
  refine EV.iload_n 18 rfl 3 rfl rfl dX0_removeProducts_17 ?_
  refine EV.icmp_ge 21 77 rfl (by decide) dX0_removeProducts_18 (fun c1 => ?_) (fun c1 => ?_)
  · have h := h.1 c1
    exact EV.vret rfl dX0_removeProducts_77 h
  · have h := h.2 c1
    refine EV.iload 23 rfl rfl dX0_removeProducts_21 ?_
    refine EV.sipush 26 rfl dX0_removeProducts_23 (v := 4096) (by decide) ?_
    refine EV.icmp_ge 29 77 rfl (by decide) dX0_removeProducts_26 (fun c2 => ?_) (fun c2 => ?_)
    · have h := h.1 c2
      exact EV.vret rfl dX0_removeProducts_77 h
    · have h := h.2 c2
      refine EV.iconst 30 rfl dX0_removeProducts_29 (v := 0) (by decide) ?_
      refine EV.istore 32 rfl [some (.ref v0), some (.ref v1), some (.int v2), some (.int v3), some (.int v4), some (.int 0)] (by decide) rfl dX0_removeProducts_30 ?_
      exact h
theorem gX0_removeProducts_32 {Γ : Gm} {d : Nat} {σ : AH} {Q : Oc → AH → Prop} {v0 : Nat} {v1 : Nat} {v2 : Int32} {v3 : Int32} {v4 : Int32} {v5 : Int32} (h : ((v2 ≤ v5 → EV Γ MX0_removeProducts d 15 [some (.ref v0), some (.ref v1), some (.int v2), some (.int v3), some (.int (v4 + 1)), none] [] σ Q) ∧ (¬ v2 ≤ v5 → ((4096 ≤ v5 → EV Γ MX0_removeProducts d 15 [some (.ref v0), some (.ref v1), some (.int v2), some (.int v3), some (.int (v4 + 1)), none] [] σ Q) ∧ (¬ 4096 ≤ v5 → hs σ v0 = some (0, 4) ∧ ∃ t4 : Nat, gr σ v0 1 = some t4 ∧ ∃ n7 : Nat, hs σ t4 = some (22, n7) ∧ ∃ j8 : Nat, IX v4 n7 j8 ∧ ∃ t10 : Nat, gr σ v0 0 = some t10 ∧ ∃ n13 : Nat, hs σ t10 = some (22, n13) ∧ ∃ j14 : Nat, IX v5 n13 j14 ∧ CV Γ d MX7_remove [.ref v1, .int ((gi σ t4 j8) ||| (gi σ t10 j14))] σ (fun σ16 => EV Γ MX0_removeProducts d 32 [some (.ref v0), some (.ref v1), some (.int v2), some (.int v3), some (.int v4), some (.int (v5 + 1))] [] σ16 Q) (fun _ _ => False)))))) : EV Γ MX0_removeProducts d 32 [some (.ref v0), some (.ref v1), some (.int v2), some (.int v3), some (.int v4), some (.int v5)] [] σ Q := by
  refine EV.iload 34 rfl rfl dX0_removeProducts_32 ?_
  refine EV.iload_n 35 rfl 2 rfl rfl dX0_removeProducts_34 ?_
  refine EV.icmp_ge 38 71 rfl (by decide) dX0_removeProducts_35 (fun c1 => ?_) (fun c1 => ?_)
  · have h := h.1 c1
    refine EV.iinc 74 rfl [some (.ref v0), some (.ref v1), some (.int v2), some (.int v3), some (.int (v4 + 1)), some (.int v5)] (v := 1) (by decide) (by decide) rfl rfl dX0_removeProducts_71 ?_
    refine EV.goto 15 (by decide) dX0_removeProducts_74 ?_
    refine EV.mask [true, true, true, true, true, false] (L' := [some (.ref v0), some (.ref v1), some (.int v2), some (.int v3), some (.int (v4 + 1)), none]) rfl ?_
    exact h
  · have h := h.2 c1
    refine EV.iload 40 rfl rfl dX0_removeProducts_38 ?_
    refine EV.sipush 43 rfl dX0_removeProducts_40 (v := 4096) (by decide) ?_
    refine EV.icmp_ge 46 71 rfl (by decide) dX0_removeProducts_43 (fun c2 => ?_) (fun c2 => ?_)
    · have h := h.1 c2
      refine EV.iinc 74 rfl [some (.ref v0), some (.ref v1), some (.int v2), some (.int v3), some (.int (v4 + 1)), some (.int v5)] (v := 1) (by decide) (by decide) rfl rfl dX0_removeProducts_71 ?_
      refine EV.goto 15 (by decide) dX0_removeProducts_74 ?_
      refine EV.mask [true, true, true, true, true, false] (L' := [some (.ref v0), some (.ref v1), some (.int v2), some (.int v3), some (.int (v4 + 1)), none]) rfl ?_
      exact h
    · have h := h.2 c2
      refine EV.aload_n 47 rfl 1 rfl rfl dX0_removeProducts_46 ?_
      refine EV.aload_n 48 rfl 0 rfl rfl dX0_removeProducts_47 ?_
      obtain ⟨w3, h⟩ := h
      obtain ⟨t4, g5, h⟩ := h
      refine EV.getR 51 rfl fl_X0_22 rfl dX0_removeProducts_48 w3 g5 ?_
      refine EV.iload 53 rfl rfl dX0_removeProducts_51 ?_
      obtain ⟨n7, w6, h⟩ := h
      obtain ⟨j8, x9, h⟩ := h
      refine EV.iald 54 rfl dX0_removeProducts_53 w6 x9 ?_
      refine EV.aload_n 55 rfl 0 rfl rfl dX0_removeProducts_54 ?_
      obtain ⟨t10, g11, h⟩ := h
      refine EV.getR 58 rfl fl_X0_18 rfl dX0_removeProducts_55 w3 g11 ?_
      refine EV.iload 60 rfl rfl dX0_removeProducts_58 ?_
      obtain ⟨n13, w12, h⟩ := h
      obtain ⟨j14, x15, h⟩ := h
      refine EV.iald 61 rfl dX0_removeProducts_60 w12 x15 ?_
      refine EV.ior 62 rfl dX0_removeProducts_61 ?_
      refine EV.cS rfl lk_X0_123 rfl (vs := [.ref v1, .int ((gi σ t4 j8) ||| (gi σ t10 j14))]) (st := []) rfl rfl (Nat.le_of_ble_eq_true rfl) dX0_removeProducts_62 h (fun v σ16 h => ?_)
      obtain ⟨rfl, h⟩ := h
      show EV Γ MX0_removeProducts d 65 [some (.ref v0), some (.ref v1), some (.int v2), some (.int v3), some (.int v4), some (.int v5)] [] σ16 Q
      refine EV.iinc 68 rfl [some (.ref v0), some (.ref v1), some (.int v2), some (.int v3), some (.int v4), some (.int (v5 + 1))] (v := 1) (by decide) (by decide) rfl rfl dX0_removeProducts_65 ?_
      refine EV.goto 32 (by decide) dX0_removeProducts_68 ?_
      exact h
