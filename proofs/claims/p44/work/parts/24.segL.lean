theorem gL_below_0 {Γ : Gm} {d : Nat} {σ : AH} {Q : Oc → AH → Prop} {v0 : Int32} {v1 : Int32} (h : ¬ v1 = 0 ∧ Q (.inl (some (.int ((v0 &&& 2147483647) - (v0 &&& 2147483647) / v1 * v1)))) σ) : EV Γ ML_below d 0 [some (.int v0), some (.int v1)] [] σ Q := by
  refine EV.iload_n 1 rfl 0 rfl rfl dL_below_0 ?_
  refine EV.ldc 3 rfl k_L_7 dL_below_1 ?_
  refine EV.iand 4 rfl dL_below_3 ?_
  refine EV.iload_n 5 rfl 1 rfl rfl dL_below_4 ?_
  obtain ⟨z1, h⟩ := h
  refine EV.irem 6 rfl dL_below_5 z1 ?_
  exact EV.iret rfl dL_below_6 h
theorem eL_below {Γ : Gm} {d : Nat} {σ : AH} {Q : Oc → AH → Prop} {v0 : Int32} {v1 : Int32} (h : ¬ v1 = 0 ∧ Q (.inl (some (.int ((v0 &&& 2147483647) - (v0 &&& 2147483647) / v1 * v1)))) σ) : RUN Γ d ML_below [.int v0, .int v1] σ Q :=
  EV.enter [some (.int v0), some (.int v1)] rfl (by decide +kernel) (Nat.le_of_ble_eq_true rfl) rfl (gL_below_0 h)
theorem gL_cell_0 {Γ : Gm} {d : Nat} {σ : AH} {Q : Oc → AH → Prop} {v0 : Nat} {v1 : Int32} (h : ∃ n2 : Nat, hs σ v0 = some (28, n2) ∧ (((nI n2) ≤ v1 → Q (.inl (some (.int ((790386105 : Int32) * (v1 + 3))))) σ) ∧ (¬ (nI n2) ≤ v1 → ∃ j4 : Nat, IX v1 n2 j4 ∧ Q (.inl (some (.int (gi σ v0 j4)))) σ))) : EV Γ ML_cell d 0 [some (.ref v0), some (.int v1)] [] σ Q := by
  refine EV.iload_n 1 rfl 1 rfl rfl dL_cell_0 ?_
  refine EV.aload_n 2 rfl 0 rfl rfl dL_cell_1 ?_
  obtain ⟨n2, w1, h⟩ := h
  refine EV.alenS 3 rfl dL_cell_2 w1 ?_
  refine EV.icmp_ge 6 12 rfl (by decide) dL_cell_3 (fun c3 => ?_) (fun c3 => ?_)
  · have h := h.1 c3
    refine EV.ldc 14 rfl k_L_8 dL_cell_12 ?_
    refine EV.iload_n 15 rfl 1 rfl rfl dL_cell_14 ?_
    refine EV.iconst 16 rfl dL_cell_15 (v := 3) (by decide) ?_
    refine EV.iadd 17 rfl dL_cell_16 ?_
    refine EV.imul 18 rfl dL_cell_17 ?_
    exact EV.iret rfl dL_cell_18 h
  · have h := h.2 c3
    refine EV.aload_n 7 rfl 0 rfl rfl dL_cell_6 ?_
    refine EV.iload_n 8 rfl 1 rfl rfl dL_cell_7 ?_
    obtain ⟨j4, x5, h⟩ := h
    refine EV.ialdS 9 rfl dL_cell_8 w1 x5 ?_
    refine EV.goto 18 (by decide) dL_cell_9 ?_
    exact EV.iret rfl dL_cell_18 h
theorem eL_cell {Γ : Gm} {d : Nat} {σ : AH} {Q : Oc → AH → Prop} {v0 : Nat} {v1 : Int32} (h : ∃ n2 : Nat, hs σ v0 = some (28, n2) ∧ (((nI n2) ≤ v1 → Q (.inl (some (.int ((790386105 : Int32) * (v1 + 3))))) σ) ∧ (¬ (nI n2) ≤ v1 → ∃ j4 : Nat, IX v1 n2 j4 ∧ Q (.inl (some (.int (gi σ v0 j4)))) σ))) : RUN Γ d ML_cell [.ref v0, .int v1] σ Q :=
  EV.enter [some (.ref v0), some (.int v1)] rfl (by decide +kernel) (Nat.le_of_ble_eq_true rfl) rfl (gL_cell_0 h)
theorem gL_has_0 {Γ : Gm} {d : Nat} {σ : AH} {Q : Oc → AH → Prop} {v0 : Int64} {v2 : Int32} (h : (((lg_cmp ((v0 >>> (Int32.toInt64 v2 &&& 63)) &&& 1) 1) ≠ 0 → Q (.inl (some (.int 0))) σ) ∧ ((lg_cmp ((v0 >>> (Int32.toInt64 v2 &&& 63)) &&& 1) 1) = 0 → Q (.inl (some (.int 1))) σ))) : EV Γ ML_has d 0 [some (.long v0), none, some (.int v2)] [] σ Q := by
  refine EV.lload_n 1 rfl 0 rfl rfl dL_has_0 ?_
  refine EV.iload_n 2 rfl 2 rfl rfl dL_has_1 ?_
  refine EV.lshr 3 rfl dL_has_2 ?_
  refine EV.lconst 4 rfl dL_has_3 (v := 1) (by decide) ?_
  refine EV.land 5 rfl dL_has_4 ?_
  refine EV.lconst 6 rfl dL_has_5 (v := 1) (by decide) ?_
  refine EV.lcmp 7 rfl dL_has_6 ?_
  refine EV.if_ne 10 14 rfl (by decide) dL_has_7 (fun c1 => ?_) (fun c1 => ?_)
  · have h := h.1 c1
    refine EV.iconst 15 rfl dL_has_14 (v := 0) (by decide) ?_
    exact EV.zret rfl rfl dL_has_15 h
  · have h := h.2 c1
    refine EV.iconst 11 rfl dL_has_10 (v := 1) (by decide) ?_
    refine EV.goto 15 (by decide) dL_has_11 ?_
    exact EV.zret rfl rfl dL_has_15 h
theorem eL_has {Γ : Gm} {d : Nat} {σ : AH} {Q : Oc → AH → Prop} {v0 : Int64} {v2 : Int32} (h : (((lg_cmp ((v0 >>> (Int32.toInt64 v2 &&& 63)) &&& 1) 1) ≠ 0 → Q (.inl (some (.int 0))) σ) ∧ ((lg_cmp ((v0 >>> (Int32.toInt64 v2 &&& 63)) &&& 1) 1) = 0 → Q (.inl (some (.int 1))) σ))) : RUN Γ d ML_has [.long v0, .int v2] σ Q :=
  EV.enter [some (.long v0), none, some (.int v2)] rfl (by decide +kernel) (Nat.le_of_ble_eq_true rfl) rfl (gL_has_0 h)
theorem gL_choose_0 {Γ : Gm} {d : Nat} {σ : AH} {Q : Oc → AH → Prop} {v0 : Int32} (h : CI Γ d ML_below [.int v0, .int 7] σ (fun r2 σ1 => EV Γ ML_choose d 15 [none, some (.long 0), none, some (.int r2), some (.int v0), some (.int 0)] [] σ1 Q) (fun _ _ => False)) : EV Γ ML_choose d 0 [some (.int v0), none, none, none, none, none] [] σ Q := by
  refine EV.lconst 1 rfl dL_choose_0 (v := 0) (by decide) ?_
  refine EV.lstore_n 2 rfl 1 [some (.int v0), some (.long 0), none, none, none, none] rfl (by decide) rfl dL_choose_1 ?_
  refine EV.iload_n 3 rfl 0 rfl rfl dL_choose_2 ?_
  refine EV.bipush 5 rfl dL_choose_3 (v := 7) (by decide) ?_
  refine EV.cS rfl lk_L_9 rfl (vs := [.int v0, .int 7]) (st := []) rfl rfl (Nat.le_of_ble_eq_true rfl) dL_choose_5 h (fun v σ1 h => ?_)
  obtain ⟨r2, rfl, h⟩ := h
  show EV Γ ML_choose d 8 [some (.int v0), some (.long 0), none, none, none, none] [.int r2] σ1 Q
  refine EV.istore_n 9 rfl 3 [some (.int v0), some (.long 0), none, some (.int r2), none, none] rfl (by decide) rfl dL_choose_8 ?_
  refine EV.iload_n 10 rfl 0 rfl rfl dL_choose_9 ?_
  refine EV.istore 12 rfl [some (.int v0), some (.long 0), none, some (.int r2), some (.int v0), none] (by decide) rfl dL_choose_10 ?_
  refine EV.iconst 13 rfl dL_choose_12 (v := 0) (by decide) ?_
  refine EV.istore 15 rfl [some (.int v0), some (.long 0), none, some (.int r2), some (.int v0), some (.int 0)] (by decide) rfl dL_choose_13 ?_
  refine EV.mask [false, true, false, true, true, true] (L' := [none, some (.long 0), none, some (.int r2), some (.int v0), some (.int 0)]) rfl ?_
  exact h
theorem eL_choose {Γ : Gm} {d : Nat} {σ : AH} {Q : Oc → AH → Prop} {v0 : Int32} (h : CI Γ d ML_below [.int v0, .int 7] σ (fun r2 σ1 => EV Γ ML_choose d 15 [none, some (.long 0), none, some (.int r2), some (.int v0), some (.int 0)] [] σ1 Q) (fun _ _ => False)) : RUN Γ d ML_choose [.int v0] σ Q :=
  EV.enter [some (.int v0), none, none, none, none, none] rfl (by decide +kernel) (Nat.le_of_ble_eq_true rfl) rfl (gL_choose_0 h)
theorem gL_choose_15 {Γ : Gm} {d : Nat} {σ : AH} {Q : Oc → AH → Prop} {v1 : Int64} {v3 : Int32} {v4 : Int32} {v5 : Int32} (h : ((v3 ≤ v5 → Q (.inl (some (.long v1))) σ) ∧ (¬ v3 ≤ v5 → EV Γ ML_choose d 15 [none, some (.long (v1 ||| ((1 : Int64) <<< (Int32.toInt64 ((((v4 * 1103515245) + 12345) >>> 16) &&& 63) &&& 63)))), none, some (.int v3), some (.int ((v4 * 1103515245) + 12345)), some (.int (v5 + 1))] [] σ Q))) : EV Γ ML_choose d 15 [none, some (.long v1), none, some (.int v3), some (.int v4), some (.int v5)] [] σ Q := by
  refine EV.iload 17 rfl rfl dL_choose_15 ?_
  refine EV.iload_n 18 rfl 3 rfl rfl dL_choose_17 ?_
  refine EV.icmp_ge 21 51 rfl (by decide) dL_choose_18 (fun c1 => ?_) (fun c1 => ?_)
  · have h := h.1 c1
    refine EV.lload_n 52 rfl 1 rfl rfl dL_choose_51 ?_
    exact EV.lret rfl dL_choose_52 h
  · have h := h.2 c1
    refine EV.iload 23 rfl rfl dL_choose_21 ?_
    refine EV.ldc 25 rfl k_L_15 dL_choose_23 ?_
    refine EV.imul 26 rfl dL_choose_25 ?_
    refine EV.sipush 29 rfl dL_choose_26 (v := 12345) (by decide) ?_
    refine EV.iadd 30 rfl dL_choose_29 ?_
    refine EV.istore 32 rfl [none, some (.long v1), none, some (.int v3), some (.int ((v4 * 1103515245) + 12345)), some (.int v5)] (by decide) rfl dL_choose_30 ?_
    refine EV.lload_n 33 rfl 1 rfl rfl dL_choose_32 ?_
    refine EV.lconst 34 rfl dL_choose_33 (v := 1) (by decide) ?_
    refine EV.iload 36 rfl rfl dL_choose_34 ?_
    refine EV.bipush 38 rfl dL_choose_36 (v := 16) (by decide) ?_
    refine EV.ishrC 39 rfl (by decide) dL_choose_38 ?_
    refine EV.bipush 41 rfl dL_choose_39 (v := 63) (by decide) ?_
    refine EV.iand 42 rfl dL_choose_41 ?_
    refine EV.lshl 43 rfl dL_choose_42 ?_
    refine EV.lor 44 rfl dL_choose_43 ?_
    refine EV.lstore_n 45 rfl 1 [none, some (.long (v1 ||| ((1 : Int64) <<< (Int32.toInt64 ((((v4 * 1103515245) + 12345) >>> 16) &&& 63) &&& 63)))), none, some (.int v3), some (.int ((v4 * 1103515245) + 12345)), some (.int v5)] rfl (by decide) rfl dL_choose_44 ?_
    refine EV.iinc 48 rfl [none, some (.long (v1 ||| ((1 : Int64) <<< (Int32.toInt64 ((((v4 * 1103515245) + 12345) >>> 16) &&& 63) &&& 63)))), none, some (.int v3), some (.int ((v4 * 1103515245) + 12345)), some (.int (v5 + 1))] (v := 1) (by decide) (by decide) rfl rfl dL_choose_45 ?_
    refine EV.goto 15 (by decide) dL_choose_48 ?_
    exact h
theorem gL_make_0 {Γ : Gm} {d : Nat} {σ : AH} {Q : Oc → AH → Prop} {v0 : Nat} {v1 : Int64} (h : hs σ v0 = some (6, 17) ∧ CI Γ d MX8_subsetsOf [.ref v0, .int 0, .int 12] σ (fun r2 σ1 => EV Γ ML_make d 11 [some (.ref v0), some (.long v1), none, some (.int r2), some (.int 0)] [] σ1 Q) (fun E σ1 => Q (.inr E) σ1)) : EV Γ ML_make d 0 [some (.ref v0), some (.long v1), none, none, none] [] σ Q := by
  refine EV.aload_n 1 rfl 0 rfl rfl dL_make_0 ?_
  refine EV.iconst 2 rfl dL_make_1 (v := 0) (by decide) ?_
  refine EV.bipush 4 rfl dL_make_2 (v := 12) (by decide) ?_
  obtain ⟨w3, h⟩ := h
  refine EV.cV rfl rfl lk_L_16 rfl (vs := [.int 0, .int 12]) (st := []) rfl rfl (Nat.le_of_ble_eq_true rfl) dL_make_4 w3 h (fun v σ1 h => ?_)
  obtain ⟨r2, rfl, h⟩ := h
  show EV Γ ML_make d 7 [some (.ref v0), some (.long v1), none, none, none] [.int r2] σ1 Q
  refine EV.istore_n 8 rfl 3 [some (.ref v0), some (.long v1), none, some (.int r2), none] rfl (by decide) rfl dL_make_7 ?_
  refine EV.iconst 9 rfl dL_make_8 (v := 0) (by decide) ?_
  refine EV.istore 11 rfl [some (.ref v0), some (.long v1), none, some (.int r2), some (.int 0)] (by decide) rfl dL_make_9 ?_
  exact h
theorem eL_make {Γ : Gm} {d : Nat} {σ : AH} {Q : Oc → AH → Prop} {v0 : Nat} {v1 : Int64} (h : hs σ v0 = some (6, 17) ∧ CI Γ d MX8_subsetsOf [.ref v0, .int 0, .int 12] σ (fun r2 σ1 => EV Γ ML_make d 11 [some (.ref v0), some (.long v1), none, some (.int r2), some (.int 0)] [] σ1 Q) (fun E σ1 => Q (.inr E) σ1)) : RUN Γ d ML_make [.ref v0, .long v1] σ Q :=
  EV.enter [some (.ref v0), some (.long v1), none, none, none] rfl (by decide +kernel) (Nat.le_of_ble_eq_true rfl) rfl (gL_make_0 h)
theorem gL_make_11 {Γ : Gm} {d : Nat} {σ : AH} {Q : Oc → AH → Prop} {v0 : Nat} {v1 : Int64} {v3 : Int32} {v4 : Int32} (h : ((64 ≤ v4 → Q (.inl (some (.int v3))) σ) ∧ (¬ 64 ≤ v4 → CI Γ d ML_has [.long v1, .int v4] σ (fun r3 σ2 => ((r3 = 0 → EV Γ ML_make d 11 [some (.ref v0), some (.long v1), none, some (.int v3), some (.int (v4 + 1))] [] σ2 Q) ∧ (¬ r3 = 0 → hs σ2 v0 = some (6, 17) ∧ CI Γ d MX8_single [.ref v0, .int v4] σ2 (fun r6 σ5 => hs σ5 v0 = some (6, 17) ∧ CI Γ d MX8_union [.ref v0, .int v3, .int r6] σ5 (fun r9 σ8 => EV Γ ML_make d 11 [some (.ref v0), some (.long v1), none, some (.int r9), some (.int (v4 + 1))] [] σ8 Q) (fun E σ8 => Q (.inr E) σ8)) (fun E σ5 => Q (.inr E) σ5)))) (fun _ _ => False)))) : EV Γ ML_make d 11 [some (.ref v0), some (.long v1), none, some (.int v3), some (.int v4)] [] σ Q := by
  refine EV.iload 13 rfl rfl dL_make_11 ?_
  refine EV.bipush 15 rfl dL_make_13 (v := 64) (by decide) ?_
  refine EV.icmp_ge 18 45 rfl (by decide) dL_make_15 (fun c1 => ?_) (fun c1 => ?_)
  · have h := h.1 c1
    refine EV.iload_n 46 rfl 3 rfl rfl dL_make_45 ?_
    exact EV.iret rfl dL_make_46 h
  · have h := h.2 c1
    refine EV.lload_n 19 rfl 1 rfl rfl dL_make_18 ?_
    refine EV.iload 21 rfl rfl dL_make_19 ?_
    refine EV.cS rfl lk_L_21 rfl (vs := [.long v1, .int v4]) (st := []) rfl rfl (Nat.le_of_ble_eq_true rfl) dL_make_21 h (fun v σ2 h => ?_)
    obtain ⟨r3, rfl, h⟩ := h
    show EV Γ ML_make d 24 [some (.ref v0), some (.long v1), none, some (.int v3), some (.int v4)] [.int r3] σ2 Q
    refine EV.if_eq 27 39 rfl (by decide) dL_make_24 (fun c4 => ?_) (fun c4 => ?_)
    · have h := h.1 c4
      refine EV.iinc 42 rfl [some (.ref v0), some (.long v1), none, some (.int v3), some (.int (v4 + 1))] (v := 1) (by decide) (by decide) rfl rfl dL_make_39 ?_
      refine EV.goto 11 (by decide) dL_make_42 ?_
      exact h
    · have h := h.2 c4
      refine EV.aload_n 28 rfl 0 rfl rfl dL_make_27 ?_
      refine EV.iload_n 29 rfl 3 rfl rfl dL_make_28 ?_
      refine EV.aload_n 30 rfl 0 rfl rfl dL_make_29 ?_
      refine EV.iload 32 rfl rfl dL_make_30 ?_
      obtain ⟨w7, h⟩ := h
      refine EV.cV rfl rfl lk_L_25 rfl (vs := [.int v4]) (st := [.int v3, .ref v0]) rfl rfl (Nat.le_of_ble_eq_true rfl) dL_make_32 w7 h (fun v σ5 h => ?_)
      obtain ⟨r6, rfl, h⟩ := h
      show EV Γ ML_make d 35 [some (.ref v0), some (.long v1), none, some (.int v3), some (.int v4)] [.int r6, .int v3, .ref v0] σ5 Q
      obtain ⟨w10, h⟩ := h
      refine EV.cV rfl rfl lk_L_29 rfl (vs := [.int v3, .int r6]) (st := []) rfl rfl (Nat.le_of_ble_eq_true rfl) dL_make_35 w10 h (fun v σ8 h => ?_)
      obtain ⟨r9, rfl, h⟩ := h
      show EV Γ ML_make d 38 [some (.ref v0), some (.long v1), none, some (.int v3), some (.int v4)] [.int r9] σ8 Q
      refine EV.istore_n 39 rfl 3 [some (.ref v0), some (.long v1), none, some (.int r9), some (.int v4)] rfl (by decide) rfl dL_make_38 ?_
      refine EV.iinc 42 rfl [some (.ref v0), some (.long v1), none, some (.int r9), some (.int (v4 + 1))] (v := 1) (by decide) (by decide) rfl rfl dL_make_39 ?_
      refine EV.goto 11 (by decide) dL_make_42 ?_
      exact h
theorem gL_is_0 {Γ : Gm} {d : Nat} {σ : AH} {Q : Oc → AH → Prop} {v0 : Nat} {v1 : Int32} {v2 : Int64} (h : hs σ v0 = some (6, 17) ∧ CI Γ d MX8_count [.ref v0, .int v1] σ (fun r2 σ1 => CI Γ d MJ13_bitCount_95d88 [.long v2] σ1 (fun r5 σ4 => ((r2 ≠ r5 → Q (.inl (some (.int 0))) σ4) ∧ (r2 = r5 → hs σ4 v0 = some (6, 17) ∧ CI Γ d MX8_contains [.ref v0, .int v1, .int 64] σ4 (fun r8 σ7 => ((r8 ≠ 0 → Q (.inl (some (.int 0))) σ7) ∧ (r8 = 0 → hs σ7 v0 = some (6, 17) ∧ CI Γ d MX8_contains [.ref v0, .int v1, .int (-1)] σ7 (fun r12 σ11 => ((r12 = 0 → EV Γ ML_is d 36 [some (.ref v0), some (.int v1), some (.long v2), none, some (.int 0)] [] σ11 Q) ∧ (¬ r12 = 0 → Q (.inl (some (.int 0))) σ11))) (fun E σ11 => Q (.inr E) σ11)))) (fun E σ7 => Q (.inr E) σ7)))) (fun _ _ => False)) (fun E σ1 => Q (.inr E) σ1)) : EV Γ ML_is d 0 [some (.ref v0), some (.int v1), some (.long v2), none, none] [] σ Q := by
  refine EV.aload_n 1 rfl 0 rfl rfl dL_is_0 ?_
  refine EV.iload_n 2 rfl 1 rfl rfl dL_is_1 ?_
  obtain ⟨w3, h⟩ := h
  refine EV.cV rfl rfl lk_L_32 rfl (vs := [.int v1]) (st := []) rfl rfl (Nat.le_of_ble_eq_true rfl) dL_is_2 w3 h (fun v σ1 h => ?_)
  obtain ⟨r2, rfl, h⟩ := h
  show EV Γ ML_is d 5 [some (.ref v0), some (.int v1), some (.long v2), none, none] [.int r2] σ1 Q
  refine EV.lload_n 6 rfl 2 rfl rfl dL_is_5 ?_
  refine EV.cS rfl lk_L_35 rfl (vs := [.long v2]) (st := [.int r2]) rfl rfl (Nat.le_of_ble_eq_true rfl) dL_is_6 h (fun v σ4 h => ?_)
  obtain ⟨r5, rfl, h⟩ := h
  show EV Γ ML_is d 9 [some (.ref v0), some (.int v1), some (.long v2), none, none] [.int r5, .int r2] σ4 Q
  refine EV.icmp_ne 12 31 rfl (by decide) dL_is_9 (fun c6 => ?_) (fun c6 => ?_)
  · have h := h.1 c6
    refine EV.iconst 32 rfl dL_is_31 (v := 0) (by decide) ?_
    exact EV.zret rfl rfl dL_is_32 h
  · have h := h.2 c6
    refine EV.aload_n 13 rfl 0 rfl rfl dL_is_12 ?_
    refine EV.iload_n 14 rfl 1 rfl rfl dL_is_13 ?_
    refine EV.bipush 16 rfl dL_is_14 (v := 64) (by decide) ?_
    obtain ⟨w9, h⟩ := h
    refine EV.cV rfl rfl lk_L_41 rfl (vs := [.int v1, .int 64]) (st := []) rfl rfl (Nat.le_of_ble_eq_true rfl) dL_is_16 w9 h (fun v σ7 h => ?_)
    obtain ⟨r8, rfl, h⟩ := h
    show EV Γ ML_is d 19 [some (.ref v0), some (.int v1), some (.long v2), none, none] [.int r8] σ7 Q
    refine EV.if_ne 22 31 rfl (by decide) dL_is_19 (fun c10 => ?_) (fun c10 => ?_)
    · have h := h.1 c10
      refine EV.iconst 32 rfl dL_is_31 (v := 0) (by decide) ?_
      exact EV.zret rfl rfl dL_is_32 h
    · have h := h.2 c10
      refine EV.aload_n 23 rfl 0 rfl rfl dL_is_22 ?_
      refine EV.iload_n 24 rfl 1 rfl rfl dL_is_23 ?_
      refine EV.iconst 25 rfl dL_is_24 (v := (-1)) (by decide) ?_
      obtain ⟨w13, h⟩ := h
      refine EV.cV rfl rfl lk_L_41 rfl (vs := [.int v1, .int (-1)]) (st := []) rfl rfl (Nat.le_of_ble_eq_true rfl) dL_is_25 w13 h (fun v σ11 h => ?_)
      obtain ⟨r12, rfl, h⟩ := h
      show EV Γ ML_is d 28 [some (.ref v0), some (.int v1), some (.long v2), none, none] [.int r12] σ11 Q
      refine EV.if_eq 31 33 rfl (by decide) dL_is_28 (fun c14 => ?_) (fun c14 => ?_)
      · have h := h.1 c14
        refine EV.iconst 34 rfl dL_is_33 (v := 0) (by decide) ?_
        refine EV.istore 36 rfl [some (.ref v0), some (.int v1), some (.long v2), none, some (.int 0)] (by decide) rfl dL_is_34 ?_
        exact h
      · have h := h.2 c14
        refine EV.iconst 32 rfl dL_is_31 (v := 0) (by decide) ?_
        exact EV.zret rfl rfl dL_is_32 h
theorem eL_is {Γ : Gm} {d : Nat} {σ : AH} {Q : Oc → AH → Prop} {v0 : Nat} {v1 : Int32} {v2 : Int64} (h : hs σ v0 = some (6, 17) ∧ CI Γ d MX8_count [.ref v0, .int v1] σ (fun r2 σ1 => CI Γ d MJ13_bitCount_95d88 [.long v2] σ1 (fun r5 σ4 => ((r2 ≠ r5 → Q (.inl (some (.int 0))) σ4) ∧ (r2 = r5 → hs σ4 v0 = some (6, 17) ∧ CI Γ d MX8_contains [.ref v0, .int v1, .int 64] σ4 (fun r8 σ7 => ((r8 ≠ 0 → Q (.inl (some (.int 0))) σ7) ∧ (r8 = 0 → hs σ7 v0 = some (6, 17) ∧ CI Γ d MX8_contains [.ref v0, .int v1, .int (-1)] σ7 (fun r12 σ11 => ((r12 = 0 → EV Γ ML_is d 36 [some (.ref v0), some (.int v1), some (.long v2), none, some (.int 0)] [] σ11 Q) ∧ (¬ r12 = 0 → Q (.inl (some (.int 0))) σ11))) (fun E σ11 => Q (.inr E) σ11)))) (fun E σ7 => Q (.inr E) σ7)))) (fun _ _ => False)) (fun E σ1 => Q (.inr E) σ1)) : RUN Γ d ML_is [.ref v0, .int v1, .long v2] σ Q :=
  EV.enter [some (.ref v0), some (.int v1), some (.long v2), none, none] rfl (by decide +kernel) (Nat.le_of_ble_eq_true rfl) rfl (gL_is_0 h)
theorem gL_is_36 {Γ : Gm} {d : Nat} {σ : AH} {Q : Oc → AH → Prop} {v0 : Nat} {v1 : Int32} {v2 : Int64} {v4 : Int32} (h : ((64 ≤ v4 → Q (.inl (some (.int 1))) σ) ∧ (¬ 64 ≤ v4 → hs σ v0 = some (6, 17) ∧ CI Γ d MX8_contains [.ref v0, .int v1, .int v4] σ (fun r3 σ2 => CI Γ d ML_has [.long v2, .int v4] σ2 (fun r6 σ5 => ((r3 = r6 → EV Γ ML_is d 36 [some (.ref v0), some (.int v1), some (.long v2), none, some (.int (v4 + 1))] [] σ5 Q) ∧ (¬ r3 = r6 → Q (.inl (some (.int 0))) σ5))) (fun _ _ => False)) (fun E σ2 => Q (.inr E) σ2)))) : EV Γ ML_is d 36 [some (.ref v0), some (.int v1), some (.long v2), none, some (.int v4)] [] σ Q := by
  refine EV.iload 38 rfl rfl dL_is_36 ?_
  refine EV.bipush 40 rfl dL_is_38 (v := 64) (by decide) ?_
  refine EV.icmp_ge 43 67 rfl (by decide) dL_is_40 (fun c1 => ?_) (fun c1 => ?_)
  · have h := h.1 c1
    refine EV.iconst 68 rfl dL_is_67 (v := 1) (by decide) ?_
    exact EV.zret rfl rfl dL_is_68 h
  · have h := h.2 c1
    refine EV.aload_n 44 rfl 0 rfl rfl dL_is_43 ?_
    refine EV.iload_n 45 rfl 1 rfl rfl dL_is_44 ?_
    refine EV.iload 47 rfl rfl dL_is_45 ?_
    obtain ⟨w4, h⟩ := h
    refine EV.cV rfl rfl lk_L_41 rfl (vs := [.int v1, .int v4]) (st := []) rfl rfl (Nat.le_of_ble_eq_true rfl) dL_is_47 w4 h (fun v σ2 h => ?_)
    obtain ⟨r3, rfl, h⟩ := h
    show EV Γ ML_is d 50 [some (.ref v0), some (.int v1), some (.long v2), none, some (.int v4)] [.int r3] σ2 Q
    refine EV.lload_n 51 rfl 2 rfl rfl dL_is_50 ?_
    refine EV.iload 53 rfl rfl dL_is_51 ?_
    refine EV.cS rfl lk_L_21 rfl (vs := [.long v2, .int v4]) (st := [.int r3]) rfl rfl (Nat.le_of_ble_eq_true rfl) dL_is_53 h (fun v σ5 h => ?_)
    obtain ⟨r6, rfl, h⟩ := h
    show EV Γ ML_is d 56 [some (.ref v0), some (.int v1), some (.long v2), none, some (.int v4)] [.int r6, .int r3] σ5 Q
    refine EV.icmp_eq 59 61 rfl (by decide) dL_is_56 (fun c7 => ?_) (fun c7 => ?_)
    · have h := h.1 c7
      refine EV.iinc 64 rfl [some (.ref v0), some (.int v1), some (.long v2), none, some (.int (v4 + 1))] (v := 1) (by decide) (by decide) rfl rfl dL_is_61 ?_
      refine EV.goto 36 (by decide) dL_is_64 ?_
      exact h
    · have h := h.2 c7
      refine EV.iconst 60 rfl dL_is_59 (v := 0) (by decide) ?_
      exact EV.zret rfl rfl dL_is_60 h
theorem gL_join_0 {Γ : Gm} {d : Nat} {σ : AH} {Q : Oc → AH → Prop} {v0 : Int64} {v2 : Int64} (h : EV Γ ML_join d 6 [some (.long v0), none, some (.long v2), none, some (.long 0), none, some (.int 0), none] [] σ Q) : EV Γ ML_join d 0 [some (.long v0), none, some (.long v2), none, none, none, none, none] [] σ Q := by
  refine EV.lconst 1 rfl dL_join_0 (v := 0) (by decide) ?_
  refine EV.lstore 3 rfl [some (.long v0), none, some (.long v2), none, some (.long 0), none, none, none] (by decide) rfl dL_join_1 ?_
  refine EV.iconst 4 rfl dL_join_3 (v := 0) (by decide) ?_
  refine EV.istore 6 rfl [some (.long v0), none, some (.long v2), none, some (.long 0), none, some (.int 0), none] (by decide) rfl dL_join_4 ?_
  exact h
theorem eL_join {Γ : Gm} {d : Nat} {σ : AH} {Q : Oc → AH → Prop} {v0 : Int64} {v2 : Int64} (h : EV Γ ML_join d 6 [some (.long v0), none, some (.long v2), none, some (.long 0), none, some (.int 0), none] [] σ Q) : RUN Γ d ML_join [.long v0, .long v2] σ Q :=
  EV.enter [some (.long v0), none, some (.long v2), none, none, none, none, none] rfl (by decide +kernel) (Nat.le_of_ble_eq_true rfl) rfl (gL_join_0 h)
theorem gL_join_6 {Γ : Gm} {d : Nat} {σ : AH} {Q : Oc → AH → Prop} {v0 : Int64} {v2 : Int64} {v4 : Int64} {v6 : Int32} (h : ((64 ≤ v6 → Q (.inl (some (.long v4))) σ) ∧ (¬ 64 ≤ v6 → EV Γ ML_join d 16 [some (.long v0), none, some (.long v2), none, some (.long v4), none, some (.int v6), some (.int 0)] [] σ Q))) : EV Γ ML_join d 6 [some (.long v0), none, some (.long v2), none, some (.long v4), none, some (.int v6), none] [] σ Q := by
  refine EV.iload 8 rfl rfl dL_join_6 ?_
  refine EV.bipush 10 rfl dL_join_8 (v := 64) (by decide) ?_
  refine EV.icmp_ge 13 65 rfl (by decide) dL_join_10 (fun c1 => ?_) (fun c1 => ?_)
  · have h := h.1 c1
    refine EV.lload 67 rfl rfl dL_join_65 ?_
    exact EV.lret rfl dL_join_67 h
  · have h := h.2 c1
    refine EV.iconst 14 rfl dL_join_13 (v := 0) (by decide) ?_
    refine EV.istore 16 rfl [some (.long v0), none, some (.long v2), none, some (.long v4), none, some (.int v6), some (.int 0)] (by decide) rfl dL_join_14 ?_
    exact h
theorem gL_join_16 {Γ : Gm} {d : Nat} {σ : AH} {Q : Oc → AH → Prop} {v0 : Int64} {v2 : Int64} {v4 : Int64} {v6 : Int32} {v7 : Int32} (h : ((64 ≤ v7 → EV Γ ML_join d 6 [some (.long v0), none, some (.long v2), none, some (.long v4), none, some (.int (v6 + 1)), none] [] σ Q) ∧ (¬ 64 ≤ v7 → CI Γ d ML_has [.long v0, .int v6] σ (fun r3 σ2 => ((r3 = 0 → EV Γ ML_join d 16 [some (.long v0), none, some (.long v2), none, some (.long v4), none, some (.int v6), some (.int (v7 + 1))] [] σ2 Q) ∧ (¬ r3 = 0 → CI Γ d ML_has [.long v2, .int v7] σ2 (fun r6 σ5 => ((r6 = 0 → EV Γ ML_join d 16 [some (.long v0), none, some (.long v2), none, some (.long v4), none, some (.int v6), some (.int (v7 + 1))] [] σ5 Q) ∧ (¬ r6 = 0 → EV Γ ML_join d 16 [some (.long v0), none, some (.long v2), none, some (.long (v4 ||| ((1 : Int64) <<< (Int32.toInt64 (v6 ||| v7) &&& 63)))), none, some (.int v6), some (.int (v7 + 1))] [] σ5 Q))) (fun _ _ => False)))) (fun _ _ => False)))) : EV Γ ML_join d 16 [some (.long v0), none, some (.long v2), none, some (.long v4), none, some (.int v6), some (.int v7)] [] σ Q := by
  refine EV.iload 18 rfl rfl dL_join_16 ?_
  refine EV.bipush 20 rfl dL_join_18 (v := 64) (by decide) ?_
  refine EV.icmp_ge 23 59 rfl (by decide) dL_join_20 (fun c1 => ?_) (fun c1 => ?_)
  · have h := h.1 c1
    refine EV.iinc 62 rfl [some (.long v0), none, some (.long v2), none, some (.long v4), none, some (.int (v6 + 1)), some (.int v7)] (v := 1) (by decide) (by decide) rfl rfl dL_join_59 ?_
    refine EV.goto 6 (by decide) dL_join_62 ?_
    refine EV.mask [true, false, true, false, true, false, true, false] (L' := [some (.long v0), none, some (.long v2), none, some (.long v4), none, some (.int (v6 + 1)), none]) rfl ?_
    exact h
  · have h := h.2 c1
    refine EV.lload_n 24 rfl 0 rfl rfl dL_join_23 ?_
    refine EV.iload 26 rfl rfl dL_join_24 ?_
    refine EV.cS rfl lk_L_21 rfl (vs := [.long v0, .int v6]) (st := []) rfl rfl (Nat.le_of_ble_eq_true rfl) dL_join_26 h (fun v σ2 h => ?_)
    obtain ⟨r3, rfl, h⟩ := h
    show EV Γ ML_join d 29 [some (.long v0), none, some (.long v2), none, some (.long v4), none, some (.int v6), some (.int v7)] [.int r3] σ2 Q
    refine EV.if_eq 32 53 rfl (by decide) dL_join_29 (fun c4 => ?_) (fun c4 => ?_)
    · have h := h.1 c4
      refine EV.iinc 56 rfl [some (.long v0), none, some (.long v2), none, some (.long v4), none, some (.int v6), some (.int (v7 + 1))] (v := 1) (by decide) (by decide) rfl rfl dL_join_53 ?_
      refine EV.goto 16 (by decide) dL_join_56 ?_
      exact h
    · have h := h.2 c4
      refine EV.lload_n 33 rfl 2 rfl rfl dL_join_32 ?_
      refine EV.iload 35 rfl rfl dL_join_33 ?_
      refine EV.cS rfl lk_L_21 rfl (vs := [.long v2, .int v7]) (st := []) rfl rfl (Nat.le_of_ble_eq_true rfl) dL_join_35 h (fun v σ5 h => ?_)
      obtain ⟨r6, rfl, h⟩ := h
      show EV Γ ML_join d 38 [some (.long v0), none, some (.long v2), none, some (.long v4), none, some (.int v6), some (.int v7)] [.int r6] σ5 Q
      refine EV.if_eq 41 53 rfl (by decide) dL_join_38 (fun c7 => ?_) (fun c7 => ?_)
      · have h := h.1 c7
        refine EV.iinc 56 rfl [some (.long v0), none, some (.long v2), none, some (.long v4), none, some (.int v6), some (.int (v7 + 1))] (v := 1) (by decide) (by decide) rfl rfl dL_join_53 ?_
        refine EV.goto 16 (by decide) dL_join_56 ?_
        exact h
      · have h := h.2 c7
        refine EV.lload 43 rfl rfl dL_join_41 ?_
        refine EV.lconst 44 rfl dL_join_43 (v := 1) (by decide) ?_
        refine EV.iload 46 rfl rfl dL_join_44 ?_
        refine EV.iload 48 rfl rfl dL_join_46 ?_
        refine EV.ior 49 rfl dL_join_48 ?_
        refine EV.lshl 50 rfl dL_join_49 ?_
        refine EV.lor 51 rfl dL_join_50 ?_
        refine EV.lstore 53 rfl [some (.long v0), none, some (.long v2), none, some (.long (v4 ||| ((1 : Int64) <<< (Int32.toInt64 (v6 ||| v7) &&& 63)))), none, some (.int v6), some (.int v7)] (by decide) rfl dL_join_51 ?_
        refine EV.iinc 56 rfl [some (.long v0), none, some (.long v2), none, some (.long (v4 ||| ((1 : Int64) <<< (Int32.toInt64 (v6 ||| v7) &&& 63)))), none, some (.int v6), some (.int (v7 + 1))] (v := 1) (by decide) (by decide) rfl rfl dL_join_53 ?_
        refine EV.goto 16 (by decide) dL_join_56 ?_
        exact h
theorem gL_quotient_0 {Γ : Gm} {d : Nat} {σ : AH} {Q : Oc → AH → Prop} {v0 : Int64} {v2 : Int64} (h : EV Γ ML_quotient d 6 [some (.long v0), none, some (.long v2), none, some (.long 0), none, some (.int 0), none, none] [] σ Q) : EV Γ ML_quotient d 0 [some (.long v0), none, some (.long v2), none, none, none, none, none, none] [] σ Q := by
  refine EV.lconst 1 rfl dL_quotient_0 (v := 0) (by decide) ?_
  refine EV.lstore 3 rfl [some (.long v0), none, some (.long v2), none, some (.long 0), none, none, none, none] (by decide) rfl dL_quotient_1 ?_
  refine EV.iconst 4 rfl dL_quotient_3 (v := 0) (by decide) ?_
  refine EV.istore 6 rfl [some (.long v0), none, some (.long v2), none, some (.long 0), none, some (.int 0), none, none] (by decide) rfl dL_quotient_4 ?_
  exact h
theorem eL_quotient {Γ : Gm} {d : Nat} {σ : AH} {Q : Oc → AH → Prop} {v0 : Int64} {v2 : Int64} (h : EV Γ ML_quotient d 6 [some (.long v0), none, some (.long v2), none, some (.long 0), none, some (.int 0), none, none] [] σ Q) : RUN Γ d ML_quotient [.long v0, .long v2] σ Q :=
  EV.enter [some (.long v0), none, some (.long v2), none, none, none, none, none, none] rfl (by decide +kernel) (Nat.le_of_ble_eq_true rfl) rfl (gL_quotient_0 h)
theorem gL_quotient_6 {Γ : Gm} {d : Nat} {σ : AH} {Q : Oc → AH → Prop} {v0 : Int64} {v2 : Int64} {v4 : Int64} {v6 : Int32} (h : ((64 ≤ v6 → Q (.inl (some (.long v4))) σ) ∧ (¬ 64 ≤ v6 → EV Γ ML_quotient d 19 [some (.long v0), none, some (.long v2), none, some (.long v4), none, some (.int v6), some (.int 1), some (.int 0)] [] σ Q))) : EV Γ ML_quotient d 6 [some (.long v0), none, some (.long v2), none, some (.long v4), none, some (.int v6), none, none] [] σ Q := by
  refine EV.iload 8 rfl rfl dL_quotient_6 ?_
  refine EV.bipush 10 rfl dL_quotient_8 (v := 64) (by decide) ?_
  refine EV.icmp_ge 13 93 rfl (by decide) dL_quotient_10 (fun c1 => ?_) (fun c1 => ?_)
  · have h := h.1 c1
    refine EV.lload 95 rfl rfl dL_quotient_93 ?_
    exact EV.lret rfl dL_quotient_95 h
  · have h := h.2 c1
    refine EV.iconst 14 rfl dL_quotient_13 (v := 1) (by decide) ?_
    refine EV.istore 16 rfl [some (.long v0), none, some (.long v2), none, some (.long v4), none, some (.int v6), some (.int 1), none] (by decide) rfl dL_quotient_14 ?_
    refine EV.iconst 17 rfl dL_quotient_16 (v := 0) (by decide) ?_
    refine EV.istore 19 rfl [some (.long v0), none, some (.long v2), none, some (.long v4), none, some (.int v6), some (.int 1), some (.int 0)] (by decide) rfl dL_quotient_17 ?_
    exact h
theorem gL_quotient_19 {Γ : Gm} {d : Nat} {σ : AH} {Q : Oc → AH → Prop} {v0 : Int64} {v2 : Int64} {v4 : Int64} {v6 : Int32} {v7 : Int32} {v8 : Int32} (h : ((64 ≤ v8 → ((v7 = 0 → EV Γ ML_quotient d 6 [some (.long v0), none, some (.long v2), none, some (.long v4), none, some (.int (v6 + 1)), none, none] [] σ Q) ∧ (¬ v7 = 0 → EV Γ ML_quotient d 6 [some (.long v0), none, some (.long v2), none, some (.long (v4 ||| ((1 : Int64) <<< (Int32.toInt64 v6 &&& 63)))), none, some (.int (v6 + 1)), none, none] [] σ Q))) ∧ (¬ 64 ≤ v8 → ((v7 = 0 → EV Γ ML_quotient d 19 [some (.long v0), none, some (.long v2), none, some (.long v4), none, some (.int v6), some (.int 0), some (.int (v8 + 1))] [] σ Q) ∧ (¬ v7 = 0 → CI Γ d ML_has [.long v2, .int v8] σ (fun r5 σ4 => ((r5 = 0 → EV Γ ML_quotient d 19 [some (.long v0), none, some (.long v2), none, some (.long v4), none, some (.int v6), some (.int 1), some (.int (v8 + 1))] [] σ4 Q) ∧ (¬ r5 = 0 → (((v8 &&& v6) ≠ 0 → EV Γ ML_quotient d 19 [some (.long v0), none, some (.long v2), none, some (.long v4), none, some (.int v6), some (.int 0), some (.int (v8 + 1))] [] σ4 Q) ∧ ((v8 &&& v6) = 0 → CI Γ d ML_has [.long v0, .int (v8 ||| v6)] σ4 (fun r9 σ8 => ((r9 = 0 → EV Γ ML_quotient d 19 [some (.long v0), none, some (.long v2), none, some (.long v4), none, some (.int v6), some (.int 0), some (.int (v8 + 1))] [] σ8 Q) ∧ (¬ r9 = 0 → EV Γ ML_quotient d 19 [some (.long v0), none, some (.long v2), none, some (.long v4), none, some (.int v6), some (.int 1), some (.int (v8 + 1))] [] σ8 Q))) (fun _ _ => False)))))) (fun _ _ => False)))))) : EV Γ ML_quotient d 19 [some (.long v0), none, some (.long v2), none, some (.long v4), none, some (.int v6), some (.int v7), some (.int v8)] [] σ Q := by
  refine EV.iload 21 rfl rfl dL_quotient_19 ?_
  refine EV.bipush 23 rfl dL_quotient_21 (v := 64) (by decide) ?_
  refine EV.icmp_ge 26 73 rfl (by decide) dL_quotient_23 (fun c1 => ?_) (fun c1 => ?_)
  · have h := h.1 c1
    refine EV.iload 75 rfl rfl dL_quotient_73 ?_
    refine EV.if_eq 78 87 rfl (by decide) dL_quotient_75 (fun c2 => ?_) (fun c2 => ?_)
    · have h := h.1 c2
      refine EV.iinc 90 rfl [some (.long v0), none, some (.long v2), none, some (.long v4), none, some (.int (v6 + 1)), some (.int v7), some (.int v8)] (v := 1) (by decide) (by decide) rfl rfl dL_quotient_87 ?_
      refine EV.goto 6 (by decide) dL_quotient_90 ?_
      refine EV.mask [true, false, true, false, true, false, true, false, false] (L' := [some (.long v0), none, some (.long v2), none, some (.long v4), none, some (.int (v6 + 1)), none, none]) rfl ?_
      exact h
    · have h := h.2 c2
      refine EV.lload 80 rfl rfl dL_quotient_78 ?_
      refine EV.lconst 81 rfl dL_quotient_80 (v := 1) (by decide) ?_
      refine EV.iload 83 rfl rfl dL_quotient_81 ?_
      refine EV.lshl 84 rfl dL_quotient_83 ?_
      refine EV.lor 85 rfl dL_quotient_84 ?_
      refine EV.lstore 87 rfl [some (.long v0), none, some (.long v2), none, some (.long (v4 ||| ((1 : Int64) <<< (Int32.toInt64 v6 &&& 63)))), none, some (.int v6), some (.int v7), some (.int v8)] (by decide) rfl dL_quotient_85 ?_
      refine EV.iinc 90 rfl [some (.long v0), none, some (.long v2), none, some (.long (v4 ||| ((1 : Int64) <<< (Int32.toInt64 v6 &&& 63)))), none, some (.int (v6 + 1)), some (.int v7), some (.int v8)] (v := 1) (by decide) (by decide) rfl rfl dL_quotient_87 ?_
      refine EV.goto 6 (by decide) dL_quotient_90 ?_
      refine EV.mask [true, false, true, false, true, false, true, false, false] (L' := [some (.long v0), none, some (.long v2), none, some (.long (v4 ||| ((1 : Int64) <<< (Int32.toInt64 v6 &&& 63)))), none, some (.int (v6 + 1)), none, none]) rfl ?_
      exact h
  · have h := h.2 c1
    refine EV.iload 28 rfl rfl dL_quotient_26 ?_
    refine EV.if_eq 31 64 rfl (by decide) dL_quotient_28 (fun c3 => ?_) (fun c3 => ?_)
    · have h := h.1 c3
      refine EV.iconst 65 rfl dL_quotient_64 (v := 0) (by decide) ?_
      refine EV.istore 67 rfl [some (.long v0), none, some (.long v2), none, some (.long v4), none, some (.int v6), some (.int 0), some (.int v8)] (by decide) rfl dL_quotient_65 ?_
      refine EV.iinc 70 rfl [some (.long v0), none, some (.long v2), none, some (.long v4), none, some (.int v6), some (.int 0), some (.int (v8 + 1))] (v := 1) (by decide) (by decide) rfl rfl dL_quotient_67 ?_
      refine EV.goto 19 (by decide) dL_quotient_70 ?_
      exact h
    · have h := h.2 c3
      refine EV.lload_n 32 rfl 2 rfl rfl dL_quotient_31 ?_
      refine EV.iload 34 rfl rfl dL_quotient_32 ?_
      refine EV.cS rfl lk_L_21 rfl (vs := [.long v2, .int v8]) (st := []) rfl rfl (Nat.le_of_ble_eq_true rfl) dL_quotient_34 h (fun v σ4 h => ?_)
      obtain ⟨r5, rfl, h⟩ := h
      show EV Γ ML_quotient d 37 [some (.long v0), none, some (.long v2), none, some (.long v4), none, some (.int v6), some (.int v7), some (.int v8)] [.int r5] σ4 Q
      refine EV.if_eq 40 60 rfl (by decide) dL_quotient_37 (fun c6 => ?_) (fun c6 => ?_)
      · have h := h.1 c6
        refine EV.iconst 61 rfl dL_quotient_60 (v := 1) (by decide) ?_
        refine EV.goto 65 (by decide) dL_quotient_61 ?_
        refine EV.istore 67 rfl [some (.long v0), none, some (.long v2), none, some (.long v4), none, some (.int v6), some (.int 1), some (.int v8)] (by decide) rfl dL_quotient_65 ?_
        refine EV.iinc 70 rfl [some (.long v0), none, some (.long v2), none, some (.long v4), none, some (.int v6), some (.int 1), some (.int (v8 + 1))] (v := 1) (by decide) (by decide) rfl rfl dL_quotient_67 ?_
        refine EV.goto 19 (by decide) dL_quotient_70 ?_
        exact h
      · have h := h.2 c6
        refine EV.iload 42 rfl rfl dL_quotient_40 ?_
        refine EV.iload 44 rfl rfl dL_quotient_42 ?_
        refine EV.iand 45 rfl dL_quotient_44 ?_
        refine EV.if_ne 48 64 rfl (by decide) dL_quotient_45 (fun c7 => ?_) (fun c7 => ?_)
        · have h := h.1 c7
          refine EV.iconst 65 rfl dL_quotient_64 (v := 0) (by decide) ?_
          refine EV.istore 67 rfl [some (.long v0), none, some (.long v2), none, some (.long v4), none, some (.int v6), some (.int 0), some (.int v8)] (by decide) rfl dL_quotient_65 ?_
          refine EV.iinc 70 rfl [some (.long v0), none, some (.long v2), none, some (.long v4), none, some (.int v6), some (.int 0), some (.int (v8 + 1))] (v := 1) (by decide) (by decide) rfl rfl dL_quotient_67 ?_
          refine EV.goto 19 (by decide) dL_quotient_70 ?_
          exact h
        · have h := h.2 c7
          refine EV.lload_n 49 rfl 0 rfl rfl dL_quotient_48 ?_
          refine EV.iload 51 rfl rfl dL_quotient_49 ?_
          refine EV.iload 53 rfl rfl dL_quotient_51 ?_
          refine EV.ior 54 rfl dL_quotient_53 ?_
          refine EV.cS rfl lk_L_21 rfl (vs := [.long v0, .int (v8 ||| v6)]) (st := []) rfl rfl (Nat.le_of_ble_eq_true rfl) dL_quotient_54 h (fun v σ8 h => ?_)
          obtain ⟨r9, rfl, h⟩ := h
          show EV Γ ML_quotient d 57 [some (.long v0), none, some (.long v2), none, some (.long v4), none, some (.int v6), some (.int v7), some (.int v8)] [.int r9] σ8 Q
          refine EV.if_eq 60 64 rfl (by decide) dL_quotient_57 (fun c10 => ?_) (fun c10 => ?_)
          · have h := h.1 c10
            refine EV.iconst 65 rfl dL_quotient_64 (v := 0) (by decide) ?_
            refine EV.istore 67 rfl [some (.long v0), none, some (.long v2), none, some (.long v4), none, some (.int v6), some (.int 0), some (.int v8)] (by decide) rfl dL_quotient_65 ?_
            refine EV.iinc 70 rfl [some (.long v0), none, some (.long v2), none, some (.long v4), none, some (.int v6), some (.int 0), some (.int (v8 + 1))] (v := 1) (by decide) (by decide) rfl rfl dL_quotient_67 ?_
            refine EV.goto 19 (by decide) dL_quotient_70 ?_
            exact h
          · have h := h.2 c10
            refine EV.iconst 61 rfl dL_quotient_60 (v := 1) (by decide) ?_
            refine EV.goto 65 (by decide) dL_quotient_61 ?_
            refine EV.istore 67 rfl [some (.long v0), none, some (.long v2), none, some (.long v4), none, some (.int v6), some (.int 1), some (.int v8)] (by decide) rfl dL_quotient_65 ?_
            refine EV.iinc 70 rfl [some (.long v0), none, some (.long v2), none, some (.long v4), none, some (.int v6), some (.int 1), some (.int (v8 + 1))] (v := 1) (by decide) (by decide) rfl rfl dL_quotient_67 ?_
            refine EV.goto 19 (by decide) dL_quotient_70 ?_
            exact h
theorem gL_extreme_0 {Γ : Gm} {d : Nat} {σ : AH} {Q : Oc → AH → Prop} {v0 : Int64} {v2 : Int32} (h : EV Γ ML_extreme d 5 [some (.long v0), none, some (.int v2), some (.long 0), none, some (.int 0), none, none] [] σ Q) : EV Γ ML_extreme d 0 [some (.long v0), none, some (.int v2), none, none, none, none, none] [] σ Q := by
  refine EV.lconst 1 rfl dL_extreme_0 (v := 0) (by decide) ?_
  refine EV.lstore_n 2 rfl 3 [some (.long v0), none, some (.int v2), some (.long 0), none, none, none, none] rfl (by decide) rfl dL_extreme_1 ?_
  refine EV.iconst 3 rfl dL_extreme_2 (v := 0) (by decide) ?_
  refine EV.istore 5 rfl [some (.long v0), none, some (.int v2), some (.long 0), none, some (.int 0), none, none] (by decide) rfl dL_extreme_3 ?_
  exact h
theorem eL_extreme {Γ : Gm} {d : Nat} {σ : AH} {Q : Oc → AH → Prop} {v0 : Int64} {v2 : Int32} (h : EV Γ ML_extreme d 5 [some (.long v0), none, some (.int v2), some (.long 0), none, some (.int 0), none, none] [] σ Q) : RUN Γ d ML_extreme [.long v0, .int v2] σ Q :=
  EV.enter [some (.long v0), none, some (.int v2), none, none, none, none, none] rfl (by decide +kernel) (Nat.le_of_ble_eq_true rfl) rfl (gL_extreme_0 h)
theorem gL_extreme_5 {Γ : Gm} {d : Nat} {σ : AH} {Q : Oc → AH → Prop} {v0 : Int64} {v2 : Int32} {v3 : Int64} {v5 : Int32} (h : ((64 ≤ v5 → Q (.inl (some (.long v3))) σ) ∧ (¬ 64 ≤ v5 → CI Γ d ML_has [.long v0, .int v5] σ (fun r3 σ2 => EV Γ ML_extreme d 23 [some (.long v0), none, some (.int v2), some (.long v3), none, some (.int v5), some (.int r3), some (.int 0)] [] σ2 Q) (fun _ _ => False)))) : EV Γ ML_extreme d 5 [some (.long v0), none, some (.int v2), some (.long v3), none, some (.int v5), none, none] [] σ Q := by
  refine EV.iload 7 rfl rfl dL_extreme_5 ?_
  refine EV.bipush 9 rfl dL_extreme_7 (v := 64) (by decide) ?_
  refine EV.icmp_ge 12 109 rfl (by decide) dL_extreme_9 (fun c1 => ?_) (fun c1 => ?_)
  · have h := h.1 c1
    refine EV.lload_n 110 rfl 3 rfl rfl dL_extreme_109 ?_
    exact EV.lret rfl dL_extreme_110 h
  · have h := h.2 c1
    refine EV.lload_n 13 rfl 0 rfl rfl dL_extreme_12 ?_
    refine EV.iload 15 rfl rfl dL_extreme_13 ?_
    refine EV.cS rfl lk_L_21 rfl (vs := [.long v0, .int v5]) (st := []) rfl rfl (Nat.le_of_ble_eq_true rfl) dL_extreme_15 h (fun v σ2 h => ?_)
    obtain ⟨r3, rfl, h⟩ := h
    show EV Γ ML_extreme d 18 [some (.long v0), none, some (.int v2), some (.long v3), none, some (.int v5), none, none] [.int r3] σ2 Q
    refine EV.istore 20 rfl [some (.long v0), none, some (.int v2), some (.long v3), none, some (.int v5), some (.int r3), none] (by decide) rfl dL_extreme_18 ?_
    refine EV.iconst 21 rfl dL_extreme_20 (v := 0) (by decide) ?_
    refine EV.istore 23 rfl [some (.long v0), none, some (.int v2), some (.long v3), none, some (.int v5), some (.int r3), some (.int 0)] (by decide) rfl dL_extreme_21 ?_
    exact h
theorem gL_extreme_23 {Γ : Gm} {d : Nat} {σ : AH} {Q : Oc → AH → Prop} {v0 : Int64} {v2 : Int32} {v3 : Int64} {v5 : Int32} {v6 : Int32} {v7 : Int32} (h : ((64 ≤ v7 → ((v6 = 0 → EV Γ ML_extreme d 5 [some (.long v0), none, some (.int v2), some (.long v3), none, some (.int (v5 + 1)), none, none] [] σ Q) ∧ (¬ v6 = 0 → EV Γ ML_extreme d 5 [some (.long v0), none, some (.int v2), some (.long (v3 ||| ((1 : Int64) <<< (Int32.toInt64 v5 &&& 63)))), none, some (.int (v5 + 1)), none, none] [] σ Q))) ∧ (¬ 64 ≤ v7 → ((v6 = 0 → EV Γ ML_extreme d 23 [some (.long v0), none, some (.int v2), some (.long v3), none, some (.int v5), some (.int 0), some (.int (v7 + 1))] [] σ Q) ∧ (¬ v6 = 0 → ((v5 = v7 → EV Γ ML_extreme d 23 [some (.long v0), none, some (.int v2), some (.long v3), none, some (.int v5), some (.int 1), some (.int (v7 + 1))] [] σ Q) ∧ (¬ v5 = v7 → CI Γ d ML_has [.long v0, .int v7] σ (fun r6 σ5 => ((r6 = 0 → EV Γ ML_extreme d 23 [some (.long v0), none, some (.int v2), some (.long v3), none, some (.int v5), some (.int 1), some (.int (v7 + 1))] [] σ5 Q) ∧ (¬ r6 = 0 → ((v2 = 0 → (((v5 &&& (v7 ^^^ (-1))) = 0 → EV Γ ML_extreme d 23 [some (.long v0), none, some (.int v2), some (.long v3), none, some (.int v5), some (.int 0), some (.int (v7 + 1))] [] σ5 Q) ∧ (¬ (v5 &&& (v7 ^^^ (-1))) = 0 → EV Γ ML_extreme d 23 [some (.long v0), none, some (.int v2), some (.long v3), none, some (.int v5), some (.int 1), some (.int (v7 + 1))] [] σ5 Q))) ∧ (¬ v2 = 0 → (((v7 &&& (v5 ^^^ (-1))) = 0 → EV Γ ML_extreme d 23 [some (.long v0), none, some (.int v2), some (.long v3), none, some (.int v5), some (.int 0), some (.int (v7 + 1))] [] σ5 Q) ∧ (¬ (v7 &&& (v5 ^^^ (-1))) = 0 → EV Γ ML_extreme d 23 [some (.long v0), none, some (.int v2), some (.long v3), none, some (.int v5), some (.int 1), some (.int (v7 + 1))] [] σ5 Q))))))) (fun _ _ => False)))))))) : EV Γ ML_extreme d 23 [some (.long v0), none, some (.int v2), some (.long v3), none, some (.int v5), some (.int v6), some (.int v7)] [] σ Q := by
  refine EV.iload 25 rfl rfl dL_extreme_23 ?_
  refine EV.bipush 27 rfl dL_extreme_25 (v := 64) (by decide) ?_
  refine EV.icmp_ge 30 91 rfl (by decide) dL_extreme_27 (fun c1 => ?_) (fun c1 => ?_)
  · have h := h.1 c1
    refine EV.iload 93 rfl rfl dL_extreme_91 ?_
    refine EV.if_eq 96 103 rfl (by decide) dL_extreme_93 (fun c2 => ?_) (fun c2 => ?_)
    · have h := h.1 c2
      refine EV.iinc 106 rfl [some (.long v0), none, some (.int v2), some (.long v3), none, some (.int (v5 + 1)), some (.int v6), some (.int v7)] (v := 1) (by decide) (by decide) rfl rfl dL_extreme_103 ?_
      refine EV.goto 5 (by decide) dL_extreme_106 ?_
      refine EV.mask [true, false, true, true, false, true, false, false] (L' := [some (.long v0), none, some (.int v2), some (.long v3), none, some (.int (v5 + 1)), none, none]) rfl ?_
      exact h
    · have h := h.2 c2
      refine EV.lload_n 97 rfl 3 rfl rfl dL_extreme_96 ?_
      refine EV.lconst 98 rfl dL_extreme_97 (v := 1) (by decide) ?_
      refine EV.iload 100 rfl rfl dL_extreme_98 ?_
      refine EV.lshl 101 rfl dL_extreme_100 ?_
      refine EV.lor 102 rfl dL_extreme_101 ?_
      refine EV.lstore_n 103 rfl 3 [some (.long v0), none, some (.int v2), some (.long (v3 ||| ((1 : Int64) <<< (Int32.toInt64 v5 &&& 63)))), none, some (.int v5), some (.int v6), some (.int v7)] rfl (by decide) rfl dL_extreme_102 ?_
      refine EV.iinc 106 rfl [some (.long v0), none, some (.int v2), some (.long (v3 ||| ((1 : Int64) <<< (Int32.toInt64 v5 &&& 63)))), none, some (.int (v5 + 1)), some (.int v6), some (.int v7)] (v := 1) (by decide) (by decide) rfl rfl dL_extreme_103 ?_
      refine EV.goto 5 (by decide) dL_extreme_106 ?_
      refine EV.mask [true, false, true, true, false, true, false, false] (L' := [some (.long v0), none, some (.int v2), some (.long (v3 ||| ((1 : Int64) <<< (Int32.toInt64 v5 &&& 63)))), none, some (.int (v5 + 1)), none, none]) rfl ?_
      exact h
  · have h := h.2 c1
    refine EV.iload 32 rfl rfl dL_extreme_30 ?_
    refine EV.if_eq 35 82 rfl (by decide) dL_extreme_32 (fun c3 => ?_) (fun c3 => ?_)
    · have h := h.1 c3
      refine EV.iconst 83 rfl dL_extreme_82 (v := 0) (by decide) ?_
      refine EV.istore 85 rfl [some (.long v0), none, some (.int v2), some (.long v3), none, some (.int v5), some (.int 0), some (.int v7)] (by decide) rfl dL_extreme_83 ?_
      refine EV.iinc 88 rfl [some (.long v0), none, some (.int v2), some (.long v3), none, some (.int v5), some (.int 0), some (.int (v7 + 1))] (v := 1) (by decide) (by decide) rfl rfl dL_extreme_85 ?_
      refine EV.goto 23 (by decide) dL_extreme_88 ?_
      exact h
    · have h := h.2 c3
      refine EV.iload 37 rfl rfl dL_extreme_35 ?_
      refine EV.iload 39 rfl rfl dL_extreme_37 ?_
      refine EV.icmp_eq 42 78 rfl (by decide) dL_extreme_39 (fun c4 => ?_) (fun c4 => ?_)
      · have h := h.1 c4
        refine EV.iconst 79 rfl dL_extreme_78 (v := 1) (by decide) ?_
        refine EV.goto 83 (by decide) dL_extreme_79 ?_
        refine EV.istore 85 rfl [some (.long v0), none, some (.int v2), some (.long v3), none, some (.int v5), some (.int 1), some (.int v7)] (by decide) rfl dL_extreme_83 ?_
        refine EV.iinc 88 rfl [some (.long v0), none, some (.int v2), some (.long v3), none, some (.int v5), some (.int 1), some (.int (v7 + 1))] (v := 1) (by decide) (by decide) rfl rfl dL_extreme_85 ?_
        refine EV.goto 23 (by decide) dL_extreme_88 ?_
        exact h
      · have h := h.2 c4
        refine EV.lload_n 43 rfl 0 rfl rfl dL_extreme_42 ?_
        refine EV.iload 45 rfl rfl dL_extreme_43 ?_
        refine EV.cS rfl lk_L_21 rfl (vs := [.long v0, .int v7]) (st := []) rfl rfl (Nat.le_of_ble_eq_true rfl) dL_extreme_45 h (fun v σ5 h => ?_)
        obtain ⟨r6, rfl, h⟩ := h
        show EV Γ ML_extreme d 48 [some (.long v0), none, some (.int v2), some (.long v3), none, some (.int v5), some (.int v6), some (.int v7)] [.int r6] σ5 Q
        refine EV.if_eq 51 78 rfl (by decide) dL_extreme_48 (fun c7 => ?_) (fun c7 => ?_)
        · have h := h.1 c7
          refine EV.iconst 79 rfl dL_extreme_78 (v := 1) (by decide) ?_
          refine EV.goto 83 (by decide) dL_extreme_79 ?_
          refine EV.istore 85 rfl [some (.long v0), none, some (.int v2), some (.long v3), none, some (.int v5), some (.int 1), some (.int v7)] (by decide) rfl dL_extreme_83 ?_
          refine EV.iinc 88 rfl [some (.long v0), none, some (.int v2), some (.long v3), none, some (.int v5), some (.int 1), some (.int (v7 + 1))] (v := 1) (by decide) (by decide) rfl rfl dL_extreme_85 ?_
          refine EV.goto 23 (by decide) dL_extreme_88 ?_
          exact h
        · have h := h.2 c7
          refine EV.iload_n 52 rfl 2 rfl rfl dL_extreme_51 ?_
          refine EV.if_eq 55 68 rfl (by decide) dL_extreme_52 (fun c8 => ?_) (fun c8 => ?_)
          · have h := h.1 c8
            refine EV.iload 70 rfl rfl dL_extreme_68 ?_
            refine EV.iload 72 rfl rfl dL_extreme_70 ?_
            refine EV.iconst 73 rfl dL_extreme_72 (v := (-1)) (by decide) ?_
            refine EV.ixor 74 rfl dL_extreme_73 ?_
            refine EV.iand 75 rfl dL_extreme_74 ?_
            refine EV.if_eq 78 82 rfl (by decide) dL_extreme_75 (fun c9 => ?_) (fun c9 => ?_)
            · have h := h.1 c9
              refine EV.iconst 83 rfl dL_extreme_82 (v := 0) (by decide) ?_
              refine EV.istore 85 rfl [some (.long v0), none, some (.int v2), some (.long v3), none, some (.int v5), some (.int 0), some (.int v7)] (by decide) rfl dL_extreme_83 ?_
              refine EV.iinc 88 rfl [some (.long v0), none, some (.int v2), some (.long v3), none, some (.int v5), some (.int 0), some (.int (v7 + 1))] (v := 1) (by decide) (by decide) rfl rfl dL_extreme_85 ?_
              refine EV.goto 23 (by decide) dL_extreme_88 ?_
              exact h
            · have h := h.2 c9
              refine EV.iconst 79 rfl dL_extreme_78 (v := 1) (by decide) ?_
              refine EV.goto 83 (by decide) dL_extreme_79 ?_
              refine EV.istore 85 rfl [some (.long v0), none, some (.int v2), some (.long v3), none, some (.int v5), some (.int 1), some (.int v7)] (by decide) rfl dL_extreme_83 ?_
              refine EV.iinc 88 rfl [some (.long v0), none, some (.int v2), some (.long v3), none, some (.int v5), some (.int 1), some (.int (v7 + 1))] (v := 1) (by decide) (by decide) rfl rfl dL_extreme_85 ?_
              refine EV.goto 23 (by decide) dL_extreme_88 ?_
              exact h
          · have h := h.2 c8
            refine EV.iload 57 rfl rfl dL_extreme_55 ?_
            refine EV.iload 59 rfl rfl dL_extreme_57 ?_
            refine EV.iconst 60 rfl dL_extreme_59 (v := (-1)) (by decide) ?_
            refine EV.ixor 61 rfl dL_extreme_60 ?_
            refine EV.iand 62 rfl dL_extreme_61 ?_
            refine EV.if_eq 65 82 rfl (by decide) dL_extreme_62 (fun c10 => ?_) (fun c10 => ?_)
            · have h := h.1 c10
              refine EV.iconst 83 rfl dL_extreme_82 (v := 0) (by decide) ?_
              refine EV.istore 85 rfl [some (.long v0), none, some (.int v2), some (.long v3), none, some (.int v5), some (.int 0), some (.int v7)] (by decide) rfl dL_extreme_83 ?_
              refine EV.iinc 88 rfl [some (.long v0), none, some (.int v2), some (.long v3), none, some (.int v5), some (.int 0), some (.int (v7 + 1))] (v := 1) (by decide) (by decide) rfl rfl dL_extreme_85 ?_
              refine EV.goto 23 (by decide) dL_extreme_88 ?_
              exact h
            · have h := h.2 c10
              refine EV.goto 78 (by decide) dL_extreme_65 ?_
              refine EV.iconst 79 rfl dL_extreme_78 (v := 1) (by decide) ?_
              refine EV.goto 83 (by decide) dL_extreme_79 ?_
              refine EV.istore 85 rfl [some (.long v0), none, some (.int v2), some (.long v3), none, some (.int v5), some (.int 1), some (.int v7)] (by decide) rfl dL_extreme_83 ?_
              refine EV.iinc 88 rfl [some (.long v0), none, some (.int v2), some (.long v3), none, some (.int v5), some (.int 1), some (.int (v7 + 1))] (v := 1) (by decide) (by decide) rfl rfl dL_extreme_85 ?_
              refine EV.goto 23 (by decide) dL_extreme_88 ?_
              exact h
theorem gL_hitting_0 {Γ : Gm} {d : Nat} {σ : AH} {Q : Oc → AH → Prop} {v0 : Int64} (h : EV Γ ML_hitting d 5 [some (.long v0), none, some (.long 0), none, some (.int 0), none, none] [] σ Q) : EV Γ ML_hitting d 0 [some (.long v0), none, none, none, none, none, none] [] σ Q := by
  refine EV.lconst 1 rfl dL_hitting_0 (v := 0) (by decide) ?_
  refine EV.lstore_n 2 rfl 2 [some (.long v0), none, some (.long 0), none, none, none, none] rfl (by decide) rfl dL_hitting_1 ?_
  refine EV.iconst 3 rfl dL_hitting_2 (v := 0) (by decide) ?_
  refine EV.istore 5 rfl [some (.long v0), none, some (.long 0), none, some (.int 0), none, none] (by decide) rfl dL_hitting_3 ?_
  exact h
theorem eL_hitting {Γ : Gm} {d : Nat} {σ : AH} {Q : Oc → AH → Prop} {v0 : Int64} (h : EV Γ ML_hitting d 5 [some (.long v0), none, some (.long 0), none, some (.int 0), none, none] [] σ Q) : RUN Γ d ML_hitting [.long v0] σ Q :=
  EV.enter [some (.long v0), none, none, none, none, none, none] rfl (by decide +kernel) (Nat.le_of_ble_eq_true rfl) rfl (gL_hitting_0 h)
theorem gL_hitting_5 {Γ : Gm} {d : Nat} {σ : AH} {Q : Oc → AH → Prop} {v0 : Int64} {v2 : Int64} {v4 : Int32} (h : ((64 ≤ v4 → CJ Γ d ML_extreme [.long v2, .int 1] σ (fun r3 σ2 => Q (.inl (some (.long r3))) σ2) (fun _ _ => False)) ∧ (¬ 64 ≤ v4 → EV Γ ML_hitting d 18 [some (.long v0), none, some (.long v2), none, some (.int v4), some (.int 1), some (.int 0)] [] σ Q))) : EV Γ ML_hitting d 5 [some (.long v0), none, some (.long v2), none, some (.int v4), none, none] [] σ Q := by
  refine EV.iload 7 rfl rfl dL_hitting_5 ?_
  refine EV.bipush 9 rfl dL_hitting_7 (v := 64) (by decide) ?_
  refine EV.icmp_ge 12 78 rfl (by decide) dL_hitting_9 (fun c1 => ?_) (fun c1 => ?_)
  · have h := h.1 c1
    refine EV.lload_n 79 rfl 2 rfl rfl dL_hitting_78 ?_
    refine EV.iconst 80 rfl dL_hitting_79 (v := 1) (by decide) ?_
    refine EV.cS rfl lk_L_45 rfl (vs := [.long v2, .int 1]) (st := []) rfl rfl (Nat.le_of_ble_eq_true rfl) dL_hitting_80 h (fun v σ2 h => ?_)
    obtain ⟨r3, rfl, h⟩ := h
    show EV Γ ML_hitting d 83 [some (.long v0), none, some (.long v2), none, some (.int v4), none, none] [.long r3] σ2 Q
    exact EV.lret rfl dL_hitting_83 h
  · have h := h.2 c1
    refine EV.iconst 13 rfl dL_hitting_12 (v := 1) (by decide) ?_
    refine EV.istore 15 rfl [some (.long v0), none, some (.long v2), none, some (.int v4), some (.int 1), none] (by decide) rfl dL_hitting_13 ?_
    refine EV.iconst 16 rfl dL_hitting_15 (v := 0) (by decide) ?_
    refine EV.istore 18 rfl [some (.long v0), none, some (.long v2), none, some (.int v4), some (.int 1), some (.int 0)] (by decide) rfl dL_hitting_16 ?_
    exact h
theorem gL_hitting_18 {Γ : Gm} {d : Nat} {σ : AH} {Q : Oc → AH → Prop} {v0 : Int64} {v2 : Int64} {v4 : Int32} {v5 : Int32} {v6 : Int32} (h : ((64 ≤ v6 → ((v5 = 0 → EV Γ ML_hitting d 5 [some (.long v0), none, some (.long v2), none, some (.int (v4 + 1)), none, none] [] σ Q) ∧ (¬ v5 = 0 → EV Γ ML_hitting d 5 [some (.long v0), none, some (.long (v2 ||| ((1 : Int64) <<< (Int32.toInt64 v4 &&& 63)))), none, some (.int (v4 + 1)), none, none] [] σ Q))) ∧ (¬ 64 ≤ v6 → ((v5 = 0 → EV Γ ML_hitting d 18 [some (.long v0), none, some (.long v2), none, some (.int v4), some (.int 0), some (.int (v6 + 1))] [] σ Q) ∧ (¬ v5 = 0 → CI Γ d ML_has [.long v0, .int v6] σ (fun r5 σ4 => ((r5 = 0 → EV Γ ML_hitting d 18 [some (.long v0), none, some (.long v2), none, some (.int v4), some (.int 1), some (.int (v6 + 1))] [] σ4 Q) ∧ (¬ r5 = 0 → (((v6 &&& v4) = 0 → EV Γ ML_hitting d 18 [some (.long v0), none, some (.long v2), none, some (.int v4), some (.int 0), some (.int (v6 + 1))] [] σ4 Q) ∧ (¬ (v6 &&& v4) = 0 → EV Γ ML_hitting d 18 [some (.long v0), none, some (.long v2), none, some (.int v4), some (.int 1), some (.int (v6 + 1))] [] σ4 Q))))) (fun _ _ => False)))))) : EV Γ ML_hitting d 18 [some (.long v0), none, some (.long v2), none, some (.int v4), some (.int v5), some (.int v6)] [] σ Q := by
  refine EV.iload 20 rfl rfl dL_hitting_18 ?_
  refine EV.bipush 22 rfl dL_hitting_20 (v := 64) (by decide) ?_
  refine EV.icmp_ge 25 60 rfl (by decide) dL_hitting_22 (fun c1 => ?_) (fun c1 => ?_)
  · have h := h.1 c1
    refine EV.iload 62 rfl rfl dL_hitting_60 ?_
    refine EV.if_eq 65 72 rfl (by decide) dL_hitting_62 (fun c2 => ?_) (fun c2 => ?_)
    · have h := h.1 c2
      refine EV.iinc 75 rfl [some (.long v0), none, some (.long v2), none, some (.int (v4 + 1)), some (.int v5), some (.int v6)] (v := 1) (by decide) (by decide) rfl rfl dL_hitting_72 ?_
      refine EV.goto 5 (by decide) dL_hitting_75 ?_
      refine EV.mask [true, false, true, false, true, false, false] (L' := [some (.long v0), none, some (.long v2), none, some (.int (v4 + 1)), none, none]) rfl ?_
      exact h
    · have h := h.2 c2
      refine EV.lload_n 66 rfl 2 rfl rfl dL_hitting_65 ?_
      refine EV.lconst 67 rfl dL_hitting_66 (v := 1) (by decide) ?_
      refine EV.iload 69 rfl rfl dL_hitting_67 ?_
      refine EV.lshl 70 rfl dL_hitting_69 ?_
      refine EV.lor 71 rfl dL_hitting_70 ?_
      refine EV.lstore_n 72 rfl 2 [some (.long v0), none, some (.long (v2 ||| ((1 : Int64) <<< (Int32.toInt64 v4 &&& 63)))), none, some (.int v4), some (.int v5), some (.int v6)] rfl (by decide) rfl dL_hitting_71 ?_
      refine EV.iinc 75 rfl [some (.long v0), none, some (.long (v2 ||| ((1 : Int64) <<< (Int32.toInt64 v4 &&& 63)))), none, some (.int (v4 + 1)), some (.int v5), some (.int v6)] (v := 1) (by decide) (by decide) rfl rfl dL_hitting_72 ?_
      refine EV.goto 5 (by decide) dL_hitting_75 ?_
      refine EV.mask [true, false, true, false, true, false, false] (L' := [some (.long v0), none, some (.long (v2 ||| ((1 : Int64) <<< (Int32.toInt64 v4 &&& 63)))), none, some (.int (v4 + 1)), none, none]) rfl ?_
      exact h
  · have h := h.2 c1
    refine EV.iload 27 rfl rfl dL_hitting_25 ?_
    refine EV.if_eq 30 51 rfl (by decide) dL_hitting_27 (fun c3 => ?_) (fun c3 => ?_)
    · have h := h.1 c3
      refine EV.iconst 52 rfl dL_hitting_51 (v := 0) (by decide) ?_
      refine EV.istore 54 rfl [some (.long v0), none, some (.long v2), none, some (.int v4), some (.int 0), some (.int v6)] (by decide) rfl dL_hitting_52 ?_
      refine EV.iinc 57 rfl [some (.long v0), none, some (.long v2), none, some (.int v4), some (.int 0), some (.int (v6 + 1))] (v := 1) (by decide) (by decide) rfl rfl dL_hitting_54 ?_
      refine EV.goto 18 (by decide) dL_hitting_57 ?_
      exact h
    · have h := h.2 c3
      refine EV.lload_n 31 rfl 0 rfl rfl dL_hitting_30 ?_
      refine EV.iload 33 rfl rfl dL_hitting_31 ?_
      refine EV.cS rfl lk_L_21 rfl (vs := [.long v0, .int v6]) (st := []) rfl rfl (Nat.le_of_ble_eq_true rfl) dL_hitting_33 h (fun v σ4 h => ?_)
      obtain ⟨r5, rfl, h⟩ := h
      show EV Γ ML_hitting d 36 [some (.long v0), none, some (.long v2), none, some (.int v4), some (.int v5), some (.int v6)] [.int r5] σ4 Q
      refine EV.if_eq 39 47 rfl (by decide) dL_hitting_36 (fun c6 => ?_) (fun c6 => ?_)
      · have h := h.1 c6
        refine EV.iconst 48 rfl dL_hitting_47 (v := 1) (by decide) ?_
        refine EV.goto 52 (by decide) dL_hitting_48 ?_
        refine EV.istore 54 rfl [some (.long v0), none, some (.long v2), none, some (.int v4), some (.int 1), some (.int v6)] (by decide) rfl dL_hitting_52 ?_
        refine EV.iinc 57 rfl [some (.long v0), none, some (.long v2), none, some (.int v4), some (.int 1), some (.int (v6 + 1))] (v := 1) (by decide) (by decide) rfl rfl dL_hitting_54 ?_
        refine EV.goto 18 (by decide) dL_hitting_57 ?_
        exact h
      · have h := h.2 c6
        refine EV.iload 41 rfl rfl dL_hitting_39 ?_
        refine EV.iload 43 rfl rfl dL_hitting_41 ?_
        refine EV.iand 44 rfl dL_hitting_43 ?_
        refine EV.if_eq 47 51 rfl (by decide) dL_hitting_44 (fun c7 => ?_) (fun c7 => ?_)
        · have h := h.1 c7
          refine EV.iconst 52 rfl dL_hitting_51 (v := 0) (by decide) ?_
          refine EV.istore 54 rfl [some (.long v0), none, some (.long v2), none, some (.int v4), some (.int 0), some (.int v6)] (by decide) rfl dL_hitting_52 ?_
          refine EV.iinc 57 rfl [some (.long v0), none, some (.long v2), none, some (.int v4), some (.int 0), some (.int (v6 + 1))] (v := 1) (by decide) (by decide) rfl rfl dL_hitting_54 ?_
          refine EV.goto 18 (by decide) dL_hitting_57 ?_
          exact h
        · have h := h.2 c7
          refine EV.iconst 48 rfl dL_hitting_47 (v := 1) (by decide) ?_
          refine EV.goto 52 (by decide) dL_hitting_48 ?_
          refine EV.istore 54 rfl [some (.long v0), none, some (.long v2), none, some (.int v4), some (.int 1), some (.int v6)] (by decide) rfl dL_hitting_52 ?_
          refine EV.iinc 57 rfl [some (.long v0), none, some (.long v2), none, some (.int v4), some (.int 1), some (.int (v6 + 1))] (v := 1) (by decide) (by decide) rfl rfl dL_hitting_54 ?_
          refine EV.goto 18 (by decide) dL_hitting_57 ?_
          exact h
