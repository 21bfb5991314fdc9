theorem gL_feed_0 {Γ : Gm} {d : Nat} {σ : AH} {Q : Oc → AH → Prop} {v0 : Nat} {v1 : Int32} {v2 : Int32} {v3 : Int32} {v4 : Int32} {v5 : Int32} {v6 : Nat} (h : hs σ v0 = some (6, 17) ∧ CI Γ d MX8_feed [.ref v0, .int v1, .int v2, .int v3, .int v4, .int v5] σ (fun r2 σ1 => ∃ n5 : Nat, hs σ1 v6 = some (23, n5) ∧ ∃ j6 : Nat, IX 0 n5 j6 ∧ ∀ σ8 : AH, σ8 = setJ σ1 v6 j6 (Int32.toInt64 r2) → Q (.inl (some (.int 0))) σ8) (fun E σ1 => ∃ w : Int32, CAT ML_feed 11 E w ∧ Q (.inl (some (.int w))) σ1)) : EV Γ ML_feed d 0 [some (.ref v0), some (.int v1), some (.int v2), some (.int v3), some (.int v4), some (.int v5), some (.ref v6), none] [] σ Q := by
  refine EV.aload 2 rfl rfl dL_feed_0 ?_
  refine EV.iconst 3 rfl dL_feed_2 (v := 0) (by decide) ?_
  refine EV.aload_n 4 rfl 0 rfl rfl dL_feed_3 ?_
  refine EV.iload_n 5 rfl 1 rfl rfl dL_feed_4 ?_
  refine EV.iload_n 6 rfl 2 rfl rfl dL_feed_5 ?_
  refine EV.iload_n 7 rfl 3 rfl rfl dL_feed_6 ?_
  refine EV.iload 9 rfl rfl dL_feed_7 ?_
  refine EV.iload 11 rfl rfl dL_feed_9 ?_
  obtain ⟨w3, h⟩ := h
  refine EV.cVC rfl rfl lk_L_7 rfl (vs := [.int v1, .int v2, .int v3, .int v4, .int v5]) (st := [.int 0, .ref v6]) rfl rfl (Nat.le_of_ble_eq_true rfl) dL_feed_11 w3 h (fun v σ1 h => ?_)
  obtain ⟨r2, rfl, h⟩ := h
  show EV Γ ML_feed d 14 [some (.ref v0), some (.int v1), some (.int v2), some (.int v3), some (.int v4), some (.int v5), some (.ref v6), none] [.int r2, .int 0, .ref v6] σ1 Q
  refine EV.i2l 15 rfl dL_feed_14 ?_
  obtain ⟨n5, w4, h⟩ := h
  obtain ⟨j6, x7, h⟩ := h
  refine EV.last 16 rfl dL_feed_15 w4 x7 (EV.nm (fun σ8 e9 => ?_))
  have h := h σ8 e9
  have w10 := tr_hs (hs_setJ_of e9) w4
  refine EV.goto 23 (by decide) dL_feed_16 ?_
  refine EV.iconst 24 rfl dL_feed_23 (v := 0) (by decide) ?_
  exact EV.iret rfl dL_feed_24 h
theorem eL_feed {Γ : Gm} {d : Nat} {σ : AH} {Q : Oc → AH → Prop} {v0 : Nat} {v1 : Int32} {v2 : Int32} {v3 : Int32} {v4 : Int32} {v5 : Int32} {v6 : Nat} (h : hs σ v0 = some (6, 17) ∧ CI Γ d MX8_feed [.ref v0, .int v1, .int v2, .int v3, .int v4, .int v5] σ (fun r2 σ1 => ∃ n5 : Nat, hs σ1 v6 = some (23, n5) ∧ ∃ j6 : Nat, IX 0 n5 j6 ∧ ∀ σ8 : AH, σ8 = setJ σ1 v6 j6 (Int32.toInt64 r2) → Q (.inl (some (.int 0))) σ8) (fun E σ1 => ∃ w : Int32, CAT ML_feed 11 E w ∧ Q (.inl (some (.int w))) σ1)) : RUN Γ d ML_feed [.ref v0, .int v1, .int v2, .int v3, .int v4, .int v5, .ref v6] σ Q :=
  EV.enterH [some (.ref v0), some (.int v1), some (.int v2), some (.int v3), some (.int v4), some (.int v5), some (.ref v6), none] rfl (by decide +kernel) (Nat.le_of_ble_eq_true rfl) rfl (gL_feed_0 h)
theorem gL_trim_0 {Γ : Gm} {d : Nat} {σ : AH} {Q : Oc → AH → Prop} {v0 : Nat} {v1 : Int32} {v2 : Nat} (h : hs σ v0 = some (6, 17) ∧ CI Γ d MX8_trim [.ref v0, .int v1] σ (fun r2 σ1 => ∃ n5 : Nat, hs σ1 v2 = some (23, n5) ∧ ∃ j6 : Nat, IX 0 n5 j6 ∧ ∀ σ8 : AH, σ8 = setJ σ1 v2 j6 (Int32.toInt64 r2) → Q (.inl (some (.int 0))) σ8) (fun E σ1 => ∃ w : Int32, CAT ML_trim 4 E w ∧ Q (.inl (some (.int w))) σ1)) : EV Γ ML_trim d 0 [some (.ref v0), some (.int v1), some (.ref v2), none] [] σ Q := by
  refine EV.aload_n 1 rfl 2 rfl rfl dL_trim_0 ?_
  refine EV.iconst 2 rfl dL_trim_1 (v := 0) (by decide) ?_
  refine EV.aload_n 3 rfl 0 rfl rfl dL_trim_2 ?_
  refine EV.iload_n 4 rfl 1 rfl rfl dL_trim_3 ?_
  obtain ⟨w3, h⟩ := h
  refine EV.cVC rfl rfl lk_L_15 rfl (vs := [.int v1]) (st := [.int 0, .ref v2]) rfl rfl (Nat.le_of_ble_eq_true rfl) dL_trim_4 w3 h (fun v σ1 h => ?_)
  obtain ⟨r2, rfl, h⟩ := h
  show EV Γ ML_trim d 7 [some (.ref v0), some (.int v1), some (.ref v2), none] [.int r2, .int 0, .ref v2] σ1 Q
  refine EV.i2l 8 rfl dL_trim_7 ?_
  obtain ⟨n5, w4, h⟩ := h
  obtain ⟨j6, x7, h⟩ := h
  refine EV.last 9 rfl dL_trim_8 w4 x7 (EV.nm (fun σ8 e9 => ?_))
  have h := h σ8 e9
  have w10 := tr_hs (hs_setJ_of e9) w4
  refine EV.goto 15 (by decide) dL_trim_9 ?_
  refine EV.iconst 16 rfl dL_trim_15 (v := 0) (by decide) ?_
  exact EV.iret rfl dL_trim_16 h
theorem eL_trim {Γ : Gm} {d : Nat} {σ : AH} {Q : Oc → AH → Prop} {v0 : Nat} {v1 : Int32} {v2 : Nat} (h : hs σ v0 = some (6, 17) ∧ CI Γ d MX8_trim [.ref v0, .int v1] σ (fun r2 σ1 => ∃ n5 : Nat, hs σ1 v2 = some (23, n5) ∧ ∃ j6 : Nat, IX 0 n5 j6 ∧ ∀ σ8 : AH, σ8 = setJ σ1 v2 j6 (Int32.toInt64 r2) → Q (.inl (some (.int 0))) σ8) (fun E σ1 => ∃ w : Int32, CAT ML_trim 4 E w ∧ Q (.inl (some (.int w))) σ1)) : RUN Γ d ML_trim [.ref v0, .int v1, .ref v2] σ Q :=
  EV.enterH [some (.ref v0), some (.int v1), some (.ref v2), none] rfl (by decide +kernel) (Nat.le_of_ble_eq_true rfl) rfl (gL_trim_0 h)
theorem gL_evaluate_0 {Γ : Gm} {d : Nat} {σ : AH} {Q : Oc → AH → Prop} {v0 : Nat} {v1 : Nat} (h : hs σ v0 = some (6, 17) ∧ CI Γ d MX8_evaluate [.ref v0] σ (fun r2 σ1 => ∃ n5 : Nat, hs σ1 v1 = some (23, n5) ∧ ∃ j6 : Nat, IX 0 n5 j6 ∧ ∀ σ8 : AH, σ8 = setJ σ1 v1 j6 (Int32.toInt64 r2) → Q (.inl (some (.int 0))) σ8) (fun E σ1 => ∃ w : Int32, CAT ML_evaluate 3 E w ∧ Q (.inl (some (.int w))) σ1)) : EV Γ ML_evaluate d 0 [some (.ref v0), some (.ref v1), none] [] σ Q := by
  refine EV.aload_n 1 rfl 1 rfl rfl dL_evaluate_0 ?_
  refine EV.iconst 2 rfl dL_evaluate_1 (v := 0) (by decide) ?_
  refine EV.aload_n 3 rfl 0 rfl rfl dL_evaluate_2 ?_
  obtain ⟨w3, h⟩ := h
  refine EV.cVC rfl rfl lk_L_21 rfl (vs := []) (st := [.int 0, .ref v1]) rfl rfl (Nat.le_of_ble_eq_true rfl) dL_evaluate_3 w3 h (fun v σ1 h => ?_)
  obtain ⟨r2, rfl, h⟩ := h
  show EV Γ ML_evaluate d 6 [some (.ref v0), some (.ref v1), none] [.int r2, .int 0, .ref v1] σ1 Q
  refine EV.i2l 7 rfl dL_evaluate_6 ?_
  obtain ⟨n5, w4, h⟩ := h
  obtain ⟨j6, x7, h⟩ := h
  refine EV.last 8 rfl dL_evaluate_7 w4 x7 (EV.nm (fun σ8 e9 => ?_))
  have h := h σ8 e9
  have w10 := tr_hs (hs_setJ_of e9) w4
  refine EV.goto 20 (by decide) dL_evaluate_8 ?_
  refine EV.iconst 21 rfl dL_evaluate_20 (v := 0) (by decide) ?_
  exact EV.iret rfl dL_evaluate_21 h
theorem eL_evaluate {Γ : Gm} {d : Nat} {σ : AH} {Q : Oc → AH → Prop} {v0 : Nat} {v1 : Nat} (h : hs σ v0 = some (6, 17) ∧ CI Γ d MX8_evaluate [.ref v0] σ (fun r2 σ1 => ∃ n5 : Nat, hs σ1 v1 = some (23, n5) ∧ ∃ j6 : Nat, IX 0 n5 j6 ∧ ∀ σ8 : AH, σ8 = setJ σ1 v1 j6 (Int32.toInt64 r2) → Q (.inl (some (.int 0))) σ8) (fun E σ1 => ∃ w : Int32, CAT ML_evaluate 3 E w ∧ Q (.inl (some (.int w))) σ1)) : RUN Γ d ML_evaluate [.ref v0, .ref v1] σ Q :=
  EV.enterH [some (.ref v0), some (.ref v1), none] rfl (by decide +kernel) (Nat.le_of_ble_eq_true rfl) rfl (gL_evaluate_0 h)
theorem gL_write_0 {Γ : Gm} {d : Nat} {σ : AH} {Q : Oc → AH → Prop} {v0 : Nat} {v1 : Int32} {v2 : Nat} (h : hs σ v0 = some (6, 17) ∧ CI Γ d MX8_write [.ref v0, .int v1] σ (fun r2 σ1 => ∃ n5 : Nat, hs σ1 v2 = some (23, n5) ∧ ∃ j6 : Nat, IX 0 n5 j6 ∧ ∀ σ8 : AH, σ8 = setJ σ1 v2 j6 (Int32.toInt64 r2) → Q (.inl (some (.int 0))) σ8) (fun E σ1 => ∃ w : Int32, CAT ML_write 4 E w ∧ Q (.inl (some (.int w))) σ1)) : EV Γ ML_write d 0 [some (.ref v0), some (.int v1), some (.ref v2), none] [] σ Q := by
  refine EV.aload_n 1 rfl 2 rfl rfl dL_write_0 ?_
  refine EV.iconst 2 rfl dL_write_1 (v := 0) (by decide) ?_
  refine EV.aload_n 3 rfl 0 rfl rfl dL_write_2 ?_
  refine EV.iload_n 4 rfl 1 rfl rfl dL_write_3 ?_
  obtain ⟨w3, h⟩ := h
  refine EV.cVC rfl rfl lk_L_27 rfl (vs := [.int v1]) (st := [.int 0, .ref v2]) rfl rfl (Nat.le_of_ble_eq_true rfl) dL_write_4 w3 h (fun v σ1 h => ?_)
  obtain ⟨r2, rfl, h⟩ := h
  show EV Γ ML_write d 7 [some (.ref v0), some (.int v1), some (.ref v2), none] [.int r2, .int 0, .ref v2] σ1 Q
  refine EV.i2l 8 rfl dL_write_7 ?_
  obtain ⟨n5, w4, h⟩ := h
  obtain ⟨j6, x7, h⟩ := h
  refine EV.last 9 rfl dL_write_8 w4 x7 (EV.nm (fun σ8 e9 => ?_))
  have h := h σ8 e9
  have w10 := tr_hs (hs_setJ_of e9) w4
  refine EV.goto 21 (by decide) dL_write_9 ?_
  refine EV.iconst 22 rfl dL_write_21 (v := 0) (by decide) ?_
  exact EV.iret rfl dL_write_22 h
theorem eL_write {Γ : Gm} {d : Nat} {σ : AH} {Q : Oc → AH → Prop} {v0 : Nat} {v1 : Int32} {v2 : Nat} (h : hs σ v0 = some (6, 17) ∧ CI Γ d MX8_write [.ref v0, .int v1] σ (fun r2 σ1 => ∃ n5 : Nat, hs σ1 v2 = some (23, n5) ∧ ∃ j6 : Nat, IX 0 n5 j6 ∧ ∀ σ8 : AH, σ8 = setJ σ1 v2 j6 (Int32.toInt64 r2) → Q (.inl (some (.int 0))) σ8) (fun E σ1 => ∃ w : Int32, CAT ML_write 4 E w ∧ Q (.inl (some (.int w))) σ1)) : RUN Γ d ML_write [.ref v0, .int v1, .ref v2] σ Q :=
  EV.enterH [some (.ref v0), some (.int v1), some (.ref v2), none] rfl (by decide +kernel) (Nat.le_of_ble_eq_true rfl) rfl (gL_write_0 h)
theorem gL_outputByte_0 {Γ : Gm} {d : Nat} {σ : AH} {Q : Oc → AH → Prop} {v0 : Nat} {v1 : Int32} {v2 : Nat} (h : hs σ v0 = some (6, 17) ∧ CI Γ d MX8_outputByte [.ref v0, .int v1] σ (fun r2 σ1 => ∃ n5 : Nat, hs σ1 v2 = some (23, n5) ∧ ∃ j6 : Nat, IX 0 n5 j6 ∧ ∀ σ8 : AH, σ8 = setJ σ1 v2 j6 (Int32.toInt64 r2) → Q (.inl (some (.int 0))) σ8) (fun E σ1 => ∃ w : Int32, CAT ML_outputByte 4 E w ∧ Q (.inl (some (.int w))) σ1)) : EV Γ ML_outputByte d 0 [some (.ref v0), some (.int v1), some (.ref v2), none] [] σ Q := by
  refine EV.aload_n 1 rfl 2 rfl rfl dL_outputByte_0 ?_
  refine EV.iconst 2 rfl dL_outputByte_1 (v := 0) (by decide) ?_
  refine EV.aload_n 3 rfl 0 rfl rfl dL_outputByte_2 ?_
  refine EV.iload_n 4 rfl 1 rfl rfl dL_outputByte_3 ?_
  obtain ⟨w3, h⟩ := h
  refine EV.cVC rfl rfl lk_L_34 rfl (vs := [.int v1]) (st := [.int 0, .ref v2]) rfl rfl (Nat.le_of_ble_eq_true rfl) dL_outputByte_4 w3 h (fun v σ1 h => ?_)
  obtain ⟨r2, rfl, h⟩ := h
  show EV Γ ML_outputByte d 7 [some (.ref v0), some (.int v1), some (.ref v2), none] [.int r2, .int 0, .ref v2] σ1 Q
  refine EV.i2l 8 rfl dL_outputByte_7 ?_
  obtain ⟨n5, w4, h⟩ := h
  obtain ⟨j6, x7, h⟩ := h
  refine EV.last 9 rfl dL_outputByte_8 w4 x7 (EV.nm (fun σ8 e9 => ?_))
  have h := h σ8 e9
  have w10 := tr_hs (hs_setJ_of e9) w4
  refine EV.goto 15 (by decide) dL_outputByte_9 ?_
  refine EV.iconst 16 rfl dL_outputByte_15 (v := 0) (by decide) ?_
  exact EV.iret rfl dL_outputByte_16 h
theorem eL_outputByte {Γ : Gm} {d : Nat} {σ : AH} {Q : Oc → AH → Prop} {v0 : Nat} {v1 : Int32} {v2 : Nat} (h : hs σ v0 = some (6, 17) ∧ CI Γ d MX8_outputByte [.ref v0, .int v1] σ (fun r2 σ1 => ∃ n5 : Nat, hs σ1 v2 = some (23, n5) ∧ ∃ j6 : Nat, IX 0 n5 j6 ∧ ∀ σ8 : AH, σ8 = setJ σ1 v2 j6 (Int32.toInt64 r2) → Q (.inl (some (.int 0))) σ8) (fun E σ1 => ∃ w : Int32, CAT ML_outputByte 4 E w ∧ Q (.inl (some (.int w))) σ1)) : RUN Γ d ML_outputByte [.ref v0, .int v1, .ref v2] σ Q :=
  EV.enterH [some (.ref v0), some (.int v1), some (.ref v2), none] rfl (by decide +kernel) (Nat.le_of_ble_eq_true rfl) rfl (gL_outputByte_0 h)
theorem gL_single_0 {Γ : Gm} {d : Nat} {σ : AH} {Q : Oc → AH → Prop} {v0 : Nat} {v1 : Int32} {v2 : Nat} (h : hs σ v0 = some (6, 17) ∧ CI Γ d MX8_single [.ref v0, .int v1] σ (fun r2 σ1 => ∃ n5 : Nat, hs σ1 v2 = some (23, n5) ∧ ∃ j6 : Nat, IX 0 n5 j6 ∧ ∀ σ8 : AH, σ8 = setJ σ1 v2 j6 (Int32.toInt64 r2) → Q (.inl (some (.int 0))) σ8) (fun E σ1 => ∃ w : Int32, CAT ML_single 4 E w ∧ Q (.inl (some (.int w))) σ1)) : EV Γ ML_single d 0 [some (.ref v0), some (.int v1), some (.ref v2), none] [] σ Q := by
  refine EV.aload_n 1 rfl 2 rfl rfl dL_single_0 ?_
  refine EV.iconst 2 rfl dL_single_1 (v := 0) (by decide) ?_
  refine EV.aload_n 3 rfl 0 rfl rfl dL_single_2 ?_
  refine EV.iload_n 4 rfl 1 rfl rfl dL_single_3 ?_
  obtain ⟨w3, h⟩ := h
  refine EV.cVC rfl rfl lk_L_37 rfl (vs := [.int v1]) (st := [.int 0, .ref v2]) rfl rfl (Nat.le_of_ble_eq_true rfl) dL_single_4 w3 h (fun v σ1 h => ?_)
  obtain ⟨r2, rfl, h⟩ := h
  show EV Γ ML_single d 7 [some (.ref v0), some (.int v1), some (.ref v2), none] [.int r2, .int 0, .ref v2] σ1 Q
  refine EV.i2l 8 rfl dL_single_7 ?_
  obtain ⟨n5, w4, h⟩ := h
  obtain ⟨j6, x7, h⟩ := h
  refine EV.last 9 rfl dL_single_8 w4 x7 (EV.nm (fun σ8 e9 => ?_))
  have h := h σ8 e9
  have w10 := tr_hs (hs_setJ_of e9) w4
  refine EV.goto 18 (by decide) dL_single_9 ?_
  refine EV.iconst 19 rfl dL_single_18 (v := 0) (by decide) ?_
  exact EV.iret rfl dL_single_19 h
theorem eL_single {Γ : Gm} {d : Nat} {σ : AH} {Q : Oc → AH → Prop} {v0 : Nat} {v1 : Int32} {v2 : Nat} (h : hs σ v0 = some (6, 17) ∧ CI Γ d MX8_single [.ref v0, .int v1] σ (fun r2 σ1 => ∃ n5 : Nat, hs σ1 v2 = some (23, n5) ∧ ∃ j6 : Nat, IX 0 n5 j6 ∧ ∀ σ8 : AH, σ8 = setJ σ1 v2 j6 (Int32.toInt64 r2) → Q (.inl (some (.int 0))) σ8) (fun E σ1 => ∃ w : Int32, CAT ML_single 4 E w ∧ Q (.inl (some (.int w))) σ1)) : RUN Γ d ML_single [.ref v0, .int v1, .ref v2] σ Q :=
  EV.enterH [some (.ref v0), some (.int v1), some (.ref v2), none] rfl (by decide +kernel) (Nat.le_of_ble_eq_true rfl) rfl (gL_single_0 h)
theorem gL_subsetsOf_0 {Γ : Gm} {d : Nat} {σ : AH} {Q : Oc → AH → Prop} {v0 : Nat} {v1 : Int32} {v2 : Int32} {v3 : Nat} (h : hs σ v0 = some (6, 17) ∧ CI Γ d MX8_subsetsOf [.ref v0, .int v1, .int v2] σ (fun r2 σ1 => ∃ n5 : Nat, hs σ1 v3 = some (23, n5) ∧ ∃ j6 : Nat, IX 0 n5 j6 ∧ ∀ σ8 : AH, σ8 = setJ σ1 v3 j6 (Int32.toInt64 r2) → Q (.inl (some (.int 0))) σ8) (fun E σ1 => ∃ w : Int32, CAT ML_subsetsOf 5 E w ∧ Q (.inl (some (.int w))) σ1)) : EV Γ ML_subsetsOf d 0 [some (.ref v0), some (.int v1), some (.int v2), some (.ref v3), none] [] σ Q := by
  refine EV.aload_n 1 rfl 3 rfl rfl dL_subsetsOf_0 ?_
  refine EV.iconst 2 rfl dL_subsetsOf_1 (v := 0) (by decide) ?_
  refine EV.aload_n 3 rfl 0 rfl rfl dL_subsetsOf_2 ?_
  refine EV.iload_n 4 rfl 1 rfl rfl dL_subsetsOf_3 ?_
  refine EV.iload_n 5 rfl 2 rfl rfl dL_subsetsOf_4 ?_
  obtain ⟨w3, h⟩ := h
  refine EV.cVC rfl rfl lk_L_40 rfl (vs := [.int v1, .int v2]) (st := [.int 0, .ref v3]) rfl rfl (Nat.le_of_ble_eq_true rfl) dL_subsetsOf_5 w3 h (fun v σ1 h => ?_)
  obtain ⟨r2, rfl, h⟩ := h
  show EV Γ ML_subsetsOf d 8 [some (.ref v0), some (.int v1), some (.int v2), some (.ref v3), none] [.int r2, .int 0, .ref v3] σ1 Q
  refine EV.i2l 9 rfl dL_subsetsOf_8 ?_
  obtain ⟨n5, w4, h⟩ := h
  obtain ⟨j6, x7, h⟩ := h
  refine EV.last 10 rfl dL_subsetsOf_9 w4 x7 (EV.nm (fun σ8 e9 => ?_))
  have h := h σ8 e9
  have w10 := tr_hs (hs_setJ_of e9) w4
  refine EV.goto 21 (by decide) dL_subsetsOf_10 ?_
  refine EV.iconst 22 rfl dL_subsetsOf_21 (v := 0) (by decide) ?_
  exact EV.iret rfl dL_subsetsOf_22 h
theorem eL_subsetsOf {Γ : Gm} {d : Nat} {σ : AH} {Q : Oc → AH → Prop} {v0 : Nat} {v1 : Int32} {v2 : Int32} {v3 : Nat} (h : hs σ v0 = some (6, 17) ∧ CI Γ d MX8_subsetsOf [.ref v0, .int v1, .int v2] σ (fun r2 σ1 => ∃ n5 : Nat, hs σ1 v3 = some (23, n5) ∧ ∃ j6 : Nat, IX 0 n5 j6 ∧ ∀ σ8 : AH, σ8 = setJ σ1 v3 j6 (Int32.toInt64 r2) → Q (.inl (some (.int 0))) σ8) (fun E σ1 => ∃ w : Int32, CAT ML_subsetsOf 5 E w ∧ Q (.inl (some (.int w))) σ1)) : RUN Γ d ML_subsetsOf [.ref v0, .int v1, .int v2, .ref v3] σ Q :=
  EV.enterH [some (.ref v0), some (.int v1), some (.int v2), some (.ref v3), none] rfl (by decide +kernel) (Nat.le_of_ble_eq_true rfl) rfl (gL_subsetsOf_0 h)
theorem gL_release_0 {Γ : Gm} {d : Nat} {σ : AH} {Q : Oc → AH → Prop} {v0 : Nat} {v1 : Int32} {v2 : Nat} (h : hs σ v0 = some (6, 17) ∧ CI Γ d MX8_release [.ref v0, .int v1] σ (fun r2 σ1 => ∃ n5 : Nat, hs σ1 v2 = some (23, n5) ∧ ∃ j6 : Nat, IX 0 n5 j6 ∧ ∀ σ8 : AH, σ8 = setJ σ1 v2 j6 (Int32.toInt64 r2) → Q (.inl (some (.int 0))) σ8) (fun E σ1 => ∃ w : Int32, CAT ML_release 4 E w ∧ Q (.inl (some (.int w))) σ1)) : EV Γ ML_release d 0 [some (.ref v0), some (.int v1), some (.ref v2), none] [] σ Q := by
  refine EV.aload_n 1 rfl 2 rfl rfl dL_release_0 ?_
  refine EV.iconst 2 rfl dL_release_1 (v := 0) (by decide) ?_
  refine EV.aload_n 3 rfl 0 rfl rfl dL_release_2 ?_
  refine EV.iload_n 4 rfl 1 rfl rfl dL_release_3 ?_
  obtain ⟨w3, h⟩ := h
  refine EV.cVC rfl rfl lk_L_44 rfl (vs := [.int v1]) (st := [.int 0, .ref v2]) rfl rfl (Nat.le_of_ble_eq_true rfl) dL_release_4 w3 h (fun v σ1 h => ?_)
  obtain ⟨r2, rfl, h⟩ := h
  show EV Γ ML_release d 7 [some (.ref v0), some (.int v1), some (.ref v2), none] [.int r2, .int 0, .ref v2] σ1 Q
  refine EV.i2l 8 rfl dL_release_7 ?_
  obtain ⟨n5, w4, h⟩ := h
  obtain ⟨j6, x7, h⟩ := h
  refine EV.last 9 rfl dL_release_8 w4 x7 (EV.nm (fun σ8 e9 => ?_))
  have h := h σ8 e9
  have w10 := tr_hs (hs_setJ_of e9) w4
  refine EV.goto 18 (by decide) dL_release_9 ?_
  refine EV.iconst 19 rfl dL_release_18 (v := 0) (by decide) ?_
  exact EV.iret rfl dL_release_19 h
theorem eL_release {Γ : Gm} {d : Nat} {σ : AH} {Q : Oc → AH → Prop} {v0 : Nat} {v1 : Int32} {v2 : Nat} (h : hs σ v0 = some (6, 17) ∧ CI Γ d MX8_release [.ref v0, .int v1] σ (fun r2 σ1 => ∃ n5 : Nat, hs σ1 v2 = some (23, n5) ∧ ∃ j6 : Nat, IX 0 n5 j6 ∧ ∀ σ8 : AH, σ8 = setJ σ1 v2 j6 (Int32.toInt64 r2) → Q (.inl (some (.int 0))) σ8) (fun E σ1 => ∃ w : Int32, CAT ML_release 4 E w ∧ Q (.inl (some (.int w))) σ1)) : RUN Γ d ML_release [.ref v0, .int v1, .ref v2] σ Q :=
  EV.enterH [some (.ref v0), some (.int v1), some (.ref v2), none] rfl (by decide +kernel) (Nat.le_of_ble_eq_true rfl) rfl (gL_release_0 h)
theorem gL_nodesOf_0 {Γ : Gm} {d : Nat} {σ : AH} {Q : Oc → AH → Prop} {v0 : Nat} {v1 : Int32} {v2 : Nat} (h : hs σ v0 = some (6, 17) ∧ CI Γ d MX8_nodesOf [.ref v0, .int v1] σ (fun r2 σ1 => ∃ n5 : Nat, hs σ1 v2 = some (23, n5) ∧ ∃ j6 : Nat, IX 0 n5 j6 ∧ ∀ σ8 : AH, σ8 = setJ σ1 v2 j6 (Int32.toInt64 r2) → Q (.inl (some (.int 0))) σ8) (fun E σ1 => ∃ w : Int32, CAT ML_nodesOf 4 E w ∧ Q (.inl (some (.int w))) σ1)) : EV Γ ML_nodesOf d 0 [some (.ref v0), some (.int v1), some (.ref v2), none] [] σ Q := by
  refine EV.aload_n 1 rfl 2 rfl rfl dL_nodesOf_0 ?_
  refine EV.iconst 2 rfl dL_nodesOf_1 (v := 0) (by decide) ?_
  refine EV.aload_n 3 rfl 0 rfl rfl dL_nodesOf_2 ?_
  refine EV.iload_n 4 rfl 1 rfl rfl dL_nodesOf_3 ?_
  obtain ⟨w3, h⟩ := h
  refine EV.cVC rfl rfl lk_L_47 rfl (vs := [.int v1]) (st := [.int 0, .ref v2]) rfl rfl (Nat.le_of_ble_eq_true rfl) dL_nodesOf_4 w3 h (fun v σ1 h => ?_)
  obtain ⟨r2, rfl, h⟩ := h
  show EV Γ ML_nodesOf d 7 [some (.ref v0), some (.int v1), some (.ref v2), none] [.int r2, .int 0, .ref v2] σ1 Q
  refine EV.i2l 8 rfl dL_nodesOf_7 ?_
  obtain ⟨n5, w4, h⟩ := h
  obtain ⟨j6, x7, h⟩ := h
  refine EV.last 9 rfl dL_nodesOf_8 w4 x7 (EV.nm (fun σ8 e9 => ?_))
  have h := h σ8 e9
  have w10 := tr_hs (hs_setJ_of e9) w4
  refine EV.goto 18 (by decide) dL_nodesOf_9 ?_
  refine EV.iconst 19 rfl dL_nodesOf_18 (v := 0) (by decide) ?_
  exact EV.iret rfl dL_nodesOf_19 h
theorem eL_nodesOf {Γ : Gm} {d : Nat} {σ : AH} {Q : Oc → AH → Prop} {v0 : Nat} {v1 : Int32} {v2 : Nat} (h : hs σ v0 = some (6, 17) ∧ CI Γ d MX8_nodesOf [.ref v0, .int v1] σ (fun r2 σ1 => ∃ n5 : Nat, hs σ1 v2 = some (23, n5) ∧ ∃ j6 : Nat, IX 0 n5 j6 ∧ ∀ σ8 : AH, σ8 = setJ σ1 v2 j6 (Int32.toInt64 r2) → Q (.inl (some (.int 0))) σ8) (fun E σ1 => ∃ w : Int32, CAT ML_nodesOf 4 E w ∧ Q (.inl (some (.int w))) σ1)) : RUN Γ d ML_nodesOf [.ref v0, .int v1, .ref v2] σ Q :=
  EV.enterH [some (.ref v0), some (.int v1), some (.ref v2), none] rfl (by decide +kernel) (Nat.le_of_ble_eq_true rfl) rfl (gL_nodesOf_0 h)
theorem gL_union_0 {Γ : Gm} {d : Nat} {σ : AH} {Q : Oc → AH → Prop} {v0 : Nat} {v1 : Int32} {v2 : Int32} {v3 : Nat} (h : hs σ v0 = some (6, 17) ∧ CI Γ d MX8_union [.ref v0, .int v1, .int v2] σ (fun r2 σ1 => ∃ n5 : Nat, hs σ1 v3 = some (23, n5) ∧ ∃ j6 : Nat, IX 0 n5 j6 ∧ ∀ σ8 : AH, σ8 = setJ σ1 v3 j6 (Int32.toInt64 r2) → Q (.inl (some (.int 0))) σ8) (fun E σ1 => ∃ w : Int32, CAT ML_union 5 E w ∧ Q (.inl (some (.int w))) σ1)) : EV Γ ML_union d 0 [some (.ref v0), some (.int v1), some (.int v2), some (.ref v3), none] [] σ Q := by
  refine EV.aload_n 1 rfl 3 rfl rfl dL_union_0 ?_
  refine EV.iconst 2 rfl dL_union_1 (v := 0) (by decide) ?_
  refine EV.aload_n 3 rfl 0 rfl rfl dL_union_2 ?_
  refine EV.iload_n 4 rfl 1 rfl rfl dL_union_3 ?_
  refine EV.iload_n 5 rfl 2 rfl rfl dL_union_4 ?_
  obtain ⟨w3, h⟩ := h
  refine EV.cVC rfl rfl lk_L_50 rfl (vs := [.int v1, .int v2]) (st := [.int 0, .ref v3]) rfl rfl (Nat.le_of_ble_eq_true rfl) dL_union_5 w3 h (fun v σ1 h => ?_)
  obtain ⟨r2, rfl, h⟩ := h
  show EV Γ ML_union d 8 [some (.ref v0), some (.int v1), some (.int v2), some (.ref v3), none] [.int r2, .int 0, .ref v3] σ1 Q
  refine EV.i2l 9 rfl dL_union_8 ?_
  obtain ⟨n5, w4, h⟩ := h
  obtain ⟨j6, x7, h⟩ := h
  refine EV.last 10 rfl dL_union_9 w4 x7 (EV.nm (fun σ8 e9 => ?_))
  have h := h σ8 e9
  have w10 := tr_hs (hs_setJ_of e9) w4
  refine EV.goto 25 (by decide) dL_union_10 ?_
  refine EV.iconst 26 rfl dL_union_25 (v := 0) (by decide) ?_
  exact EV.iret rfl dL_union_26 h
theorem eL_union {Γ : Gm} {d : Nat} {σ : AH} {Q : Oc → AH → Prop} {v0 : Nat} {v1 : Int32} {v2 : Int32} {v3 : Nat} (h : hs σ v0 = some (6, 17) ∧ CI Γ d MX8_union [.ref v0, .int v1, .int v2] σ (fun r2 σ1 => ∃ n5 : Nat, hs σ1 v3 = some (23, n5) ∧ ∃ j6 : Nat, IX 0 n5 j6 ∧ ∀ σ8 : AH, σ8 = setJ σ1 v3 j6 (Int32.toInt64 r2) → Q (.inl (some (.int 0))) σ8) (fun E σ1 => ∃ w : Int32, CAT ML_union 5 E w ∧ Q (.inl (some (.int w))) σ1)) : RUN Γ d ML_union [.ref v0, .int v1, .int v2, .ref v3] σ Q :=
  EV.enterH [some (.ref v0), some (.int v1), some (.int v2), some (.ref v3), none] rfl (by decide +kernel) (Nat.le_of_ble_eq_true rfl) rfl (gL_union_0 h)
theorem gL_intersection_0 {Γ : Gm} {d : Nat} {σ : AH} {Q : Oc → AH → Prop} {v0 : Nat} {v1 : Int32} {v2 : Int32} {v3 : Nat} (h : hs σ v0 = some (6, 17) ∧ CI Γ d MX8_intersection [.ref v0, .int v1, .int v2] σ (fun r2 σ1 => ∃ n5 : Nat, hs σ1 v3 = some (23, n5) ∧ ∃ j6 : Nat, IX 0 n5 j6 ∧ ∀ σ8 : AH, σ8 = setJ σ1 v3 j6 (Int32.toInt64 r2) → Q (.inl (some (.int 0))) σ8) (fun E σ1 => ∃ w : Int32, CAT ML_intersection 5 E w ∧ Q (.inl (some (.int w))) σ1)) : EV Γ ML_intersection d 0 [some (.ref v0), some (.int v1), some (.int v2), some (.ref v3), none] [] σ Q := by
  refine EV.aload_n 1 rfl 3 rfl rfl dL_intersection_0 ?_
  refine EV.iconst 2 rfl dL_intersection_1 (v := 0) (by decide) ?_
  refine EV.aload_n 3 rfl 0 rfl rfl dL_intersection_2 ?_
  refine EV.iload_n 4 rfl 1 rfl rfl dL_intersection_3 ?_
  refine EV.iload_n 5 rfl 2 rfl rfl dL_intersection_4 ?_
  obtain ⟨w3, h⟩ := h
  refine EV.cVC rfl rfl lk_L_53 rfl (vs := [.int v1, .int v2]) (st := [.int 0, .ref v3]) rfl rfl (Nat.le_of_ble_eq_true rfl) dL_intersection_5 w3 h (fun v σ1 h => ?_)
  obtain ⟨r2, rfl, h⟩ := h
  show EV Γ ML_intersection d 8 [some (.ref v0), some (.int v1), some (.int v2), some (.ref v3), none] [.int r2, .int 0, .ref v3] σ1 Q
  refine EV.i2l 9 rfl dL_intersection_8 ?_
  obtain ⟨n5, w4, h⟩ := h
  obtain ⟨j6, x7, h⟩ := h
  refine EV.last 10 rfl dL_intersection_9 w4 x7 (EV.nm (fun σ8 e9 => ?_))
  have h := h σ8 e9
  have w10 := tr_hs (hs_setJ_of e9) w4
  refine EV.goto 25 (by decide) dL_intersection_10 ?_
  refine EV.iconst 26 rfl dL_intersection_25 (v := 0) (by decide) ?_
  exact EV.iret rfl dL_intersection_26 h
theorem eL_intersection {Γ : Gm} {d : Nat} {σ : AH} {Q : Oc → AH → Prop} {v0 : Nat} {v1 : Int32} {v2 : Int32} {v3 : Nat} (h : hs σ v0 = some (6, 17) ∧ CI Γ d MX8_intersection [.ref v0, .int v1, .int v2] σ (fun r2 σ1 => ∃ n5 : Nat, hs σ1 v3 = some (23, n5) ∧ ∃ j6 : Nat, IX 0 n5 j6 ∧ ∀ σ8 : AH, σ8 = setJ σ1 v3 j6 (Int32.toInt64 r2) → Q (.inl (some (.int 0))) σ8) (fun E σ1 => ∃ w : Int32, CAT ML_intersection 5 E w ∧ Q (.inl (some (.int w))) σ1)) : RUN Γ d ML_intersection [.ref v0, .int v1, .int v2, .ref v3] σ Q :=
  EV.enterH [some (.ref v0), some (.int v1), some (.int v2), some (.ref v3), none] rfl (by decide +kernel) (Nat.le_of_ble_eq_true rfl) rfl (gL_intersection_0 h)
theorem gL_difference_0 {Γ : Gm} {d : Nat} {σ : AH} {Q : Oc → AH → Prop} {v0 : Nat} {v1 : Int32} {v2 : Int32} {v3 : Nat} (h : hs σ v0 = some (6, 17) ∧ CI Γ d MX8_difference [.ref v0, .int v1, .int v2] σ (fun r2 σ1 => ∃ n5 : Nat, hs σ1 v3 = some (23, n5) ∧ ∃ j6 : Nat, IX 0 n5 j6 ∧ ∀ σ8 : AH, σ8 = setJ σ1 v3 j6 (Int32.toInt64 r2) → Q (.inl (some (.int 0))) σ8) (fun E σ1 => ∃ w : Int32, CAT ML_difference 5 E w ∧ Q (.inl (some (.int w))) σ1)) : EV Γ ML_difference d 0 [some (.ref v0), some (.int v1), some (.int v2), some (.ref v3), none] [] σ Q := by
  refine EV.aload_n 1 rfl 3 rfl rfl dL_difference_0 ?_
  refine EV.iconst 2 rfl dL_difference_1 (v := 0) (by decide) ?_
  refine EV.aload_n 3 rfl 0 rfl rfl dL_difference_2 ?_
  refine EV.iload_n 4 rfl 1 rfl rfl dL_difference_3 ?_
  refine EV.iload_n 5 rfl 2 rfl rfl dL_difference_4 ?_
  obtain ⟨w3, h⟩ := h
  refine EV.cVC rfl rfl lk_L_56 rfl (vs := [.int v1, .int v2]) (st := [.int 0, .ref v3]) rfl rfl (Nat.le_of_ble_eq_true rfl) dL_difference_5 w3 h (fun v σ1 h => ?_)
  obtain ⟨r2, rfl, h⟩ := h
  show EV Γ ML_difference d 8 [some (.ref v0), some (.int v1), some (.int v2), some (.ref v3), none] [.int r2, .int 0, .ref v3] σ1 Q
  refine EV.i2l 9 rfl dL_difference_8 ?_
  obtain ⟨n5, w4, h⟩ := h
  obtain ⟨j6, x7, h⟩ := h
  refine EV.last 10 rfl dL_difference_9 w4 x7 (EV.nm (fun σ8 e9 => ?_))
  have h := h σ8 e9
  have w10 := tr_hs (hs_setJ_of e9) w4
  refine EV.goto 25 (by decide) dL_difference_10 ?_
  refine EV.iconst 26 rfl dL_difference_25 (v := 0) (by decide) ?_
  exact EV.iret rfl dL_difference_26 h
theorem eL_difference {Γ : Gm} {d : Nat} {σ : AH} {Q : Oc → AH → Prop} {v0 : Nat} {v1 : Int32} {v2 : Int32} {v3 : Nat} (h : hs σ v0 = some (6, 17) ∧ CI Γ d MX8_difference [.ref v0, .int v1, .int v2] σ (fun r2 σ1 => ∃ n5 : Nat, hs σ1 v3 = some (23, n5) ∧ ∃ j6 : Nat, IX 0 n5 j6 ∧ ∀ σ8 : AH, σ8 = setJ σ1 v3 j6 (Int32.toInt64 r2) → Q (.inl (some (.int 0))) σ8) (fun E σ1 => ∃ w : Int32, CAT ML_difference 5 E w ∧ Q (.inl (some (.int w))) σ1)) : RUN Γ d ML_difference [.ref v0, .int v1, .int v2, .ref v3] σ Q :=
  EV.enterH [some (.ref v0), some (.int v1), some (.int v2), some (.ref v3), none] rfl (by decide +kernel) (Nat.le_of_ble_eq_true rfl) rfl (gL_difference_0 h)
theorem gL_join_0 {Γ : Gm} {d : Nat} {σ : AH} {Q : Oc → AH → Prop} {v0 : Nat} {v1 : Int32} {v2 : Int32} {v3 : Nat} (h : hs σ v0 = some (6, 17) ∧ CI Γ d MX8_join [.ref v0, .int v1, .int v2] σ (fun r2 σ1 => ∃ n5 : Nat, hs σ1 v3 = some (23, n5) ∧ ∃ j6 : Nat, IX 0 n5 j6 ∧ ∀ σ8 : AH, σ8 = setJ σ1 v3 j6 (Int32.toInt64 r2) → Q (.inl (some (.int 0))) σ8) (fun E σ1 => ∃ w : Int32, CAT ML_join 5 E w ∧ Q (.inl (some (.int w))) σ1)) : EV Γ ML_join d 0 [some (.ref v0), some (.int v1), some (.int v2), some (.ref v3), none] [] σ Q := by
  refine EV.aload_n 1 rfl 3 rfl rfl dL_join_0 ?_
  refine EV.iconst 2 rfl dL_join_1 (v := 0) (by decide) ?_
  refine EV.aload_n 3 rfl 0 rfl rfl dL_join_2 ?_
  refine EV.iload_n 4 rfl 1 rfl rfl dL_join_3 ?_
  refine EV.iload_n 5 rfl 2 rfl rfl dL_join_4 ?_
  obtain ⟨w3, h⟩ := h
  refine EV.cVC rfl rfl lk_L_59 rfl (vs := [.int v1, .int v2]) (st := [.int 0, .ref v3]) rfl rfl (Nat.le_of_ble_eq_true rfl) dL_join_5 w3 h (fun v σ1 h => ?_)
  obtain ⟨r2, rfl, h⟩ := h
  show EV Γ ML_join d 8 [some (.ref v0), some (.int v1), some (.int v2), some (.ref v3), none] [.int r2, .int 0, .ref v3] σ1 Q
  refine EV.i2l 9 rfl dL_join_8 ?_
  obtain ⟨n5, w4, h⟩ := h
  obtain ⟨j6, x7, h⟩ := h
  refine EV.last 10 rfl dL_join_9 w4 x7 (EV.nm (fun σ8 e9 => ?_))
  have h := h σ8 e9
  have w10 := tr_hs (hs_setJ_of e9) w4
  refine EV.goto 25 (by decide) dL_join_10 ?_
  refine EV.iconst 26 rfl dL_join_25 (v := 0) (by decide) ?_
  exact EV.iret rfl dL_join_26 h
theorem eL_join {Γ : Gm} {d : Nat} {σ : AH} {Q : Oc → AH → Prop} {v0 : Nat} {v1 : Int32} {v2 : Int32} {v3 : Nat} (h : hs σ v0 = some (6, 17) ∧ CI Γ d MX8_join [.ref v0, .int v1, .int v2] σ (fun r2 σ1 => ∃ n5 : Nat, hs σ1 v3 = some (23, n5) ∧ ∃ j6 : Nat, IX 0 n5 j6 ∧ ∀ σ8 : AH, σ8 = setJ σ1 v3 j6 (Int32.toInt64 r2) → Q (.inl (some (.int 0))) σ8) (fun E σ1 => ∃ w : Int32, CAT ML_join 5 E w ∧ Q (.inl (some (.int w))) σ1)) : RUN Γ d ML_join [.ref v0, .int v1, .int v2, .ref v3] σ Q :=
  EV.enterH [some (.ref v0), some (.int v1), some (.int v2), some (.ref v3), none] rfl (by decide +kernel) (Nat.le_of_ble_eq_true rfl) rfl (gL_join_0 h)
theorem gL_meet_0 {Γ : Gm} {d : Nat} {σ : AH} {Q : Oc → AH → Prop} {v0 : Nat} {v1 : Int32} {v2 : Int32} {v3 : Nat} (h : hs σ v0 = some (6, 17) ∧ CI Γ d MX8_meet [.ref v0, .int v1, .int v2] σ (fun r2 σ1 => ∃ n5 : Nat, hs σ1 v3 = some (23, n5) ∧ ∃ j6 : Nat, IX 0 n5 j6 ∧ ∀ σ8 : AH, σ8 = setJ σ1 v3 j6 (Int32.toInt64 r2) → Q (.inl (some (.int 0))) σ8) (fun E σ1 => ∃ w : Int32, CAT ML_meet 5 E w ∧ Q (.inl (some (.int w))) σ1)) : EV Γ ML_meet d 0 [some (.ref v0), some (.int v1), some (.int v2), some (.ref v3), none] [] σ Q := by
  refine EV.aload_n 1 rfl 3 rfl rfl dL_meet_0 ?_
  refine EV.iconst 2 rfl dL_meet_1 (v := 0) (by decide) ?_
  refine EV.aload_n 3 rfl 0 rfl rfl dL_meet_2 ?_
  refine EV.iload_n 4 rfl 1 rfl rfl dL_meet_3 ?_
  refine EV.iload_n 5 rfl 2 rfl rfl dL_meet_4 ?_
  obtain ⟨w3, h⟩ := h
  refine EV.cVC rfl rfl lk_L_62 rfl (vs := [.int v1, .int v2]) (st := [.int 0, .ref v3]) rfl rfl (Nat.le_of_ble_eq_true rfl) dL_meet_5 w3 h (fun v σ1 h => ?_)
  obtain ⟨r2, rfl, h⟩ := h
  show EV Γ ML_meet d 8 [some (.ref v0), some (.int v1), some (.int v2), some (.ref v3), none] [.int r2, .int 0, .ref v3] σ1 Q
  refine EV.i2l 9 rfl dL_meet_8 ?_
  obtain ⟨n5, w4, h⟩ := h
  obtain ⟨j6, x7, h⟩ := h
  refine EV.last 10 rfl dL_meet_9 w4 x7 (EV.nm (fun σ8 e9 => ?_))
  have h := h σ8 e9
  have w10 := tr_hs (hs_setJ_of e9) w4
  refine EV.goto 25 (by decide) dL_meet_10 ?_
  refine EV.iconst 26 rfl dL_meet_25 (v := 0) (by decide) ?_
  exact EV.iret rfl dL_meet_26 h
theorem eL_meet {Γ : Gm} {d : Nat} {σ : AH} {Q : Oc → AH → Prop} {v0 : Nat} {v1 : Int32} {v2 : Int32} {v3 : Nat} (h : hs σ v0 = some (6, 17) ∧ CI Γ d MX8_meet [.ref v0, .int v1, .int v2] σ (fun r2 σ1 => ∃ n5 : Nat, hs σ1 v3 = some (23, n5) ∧ ∃ j6 : Nat, IX 0 n5 j6 ∧ ∀ σ8 : AH, σ8 = setJ σ1 v3 j6 (Int32.toInt64 r2) → Q (.inl (some (.int 0))) σ8) (fun E σ1 => ∃ w : Int32, CAT ML_meet 5 E w ∧ Q (.inl (some (.int w))) σ1)) : RUN Γ d ML_meet [.ref v0, .int v1, .int v2, .ref v3] σ Q :=
  EV.enterH [some (.ref v0), some (.int v1), some (.int v2), some (.ref v3), none] rfl (by decide +kernel) (Nat.le_of_ble_eq_true rfl) rfl (gL_meet_0 h)
theorem gL_quotient_0 {Γ : Gm} {d : Nat} {σ : AH} {Q : Oc → AH → Prop} {v0 : Nat} {v1 : Int32} {v2 : Int32} {v3 : Nat} (h : hs σ v0 = some (6, 17) ∧ CI Γ d MX8_quotient [.ref v0, .int v1, .int v2] σ (fun r2 σ1 => ∃ n5 : Nat, hs σ1 v3 = some (23, n5) ∧ ∃ j6 : Nat, IX 0 n5 j6 ∧ ∀ σ8 : AH, σ8 = setJ σ1 v3 j6 (Int32.toInt64 r2) → Q (.inl (some (.int 0))) σ8) (fun E σ1 => ∃ w : Int32, CAT ML_quotient 5 E w ∧ Q (.inl (some (.int w))) σ1)) : EV Γ ML_quotient d 0 [some (.ref v0), some (.int v1), some (.int v2), some (.ref v3), none] [] σ Q := by
  refine EV.aload_n 1 rfl 3 rfl rfl dL_quotient_0 ?_
  refine EV.iconst 2 rfl dL_quotient_1 (v := 0) (by decide) ?_
  refine EV.aload_n 3 rfl 0 rfl rfl dL_quotient_2 ?_
  refine EV.iload_n 4 rfl 1 rfl rfl dL_quotient_3 ?_
  refine EV.iload_n 5 rfl 2 rfl rfl dL_quotient_4 ?_
  obtain ⟨w3, h⟩ := h
  refine EV.cVC rfl rfl lk_L_65 rfl (vs := [.int v1, .int v2]) (st := [.int 0, .ref v3]) rfl rfl (Nat.le_of_ble_eq_true rfl) dL_quotient_5 w3 h (fun v σ1 h => ?_)
  obtain ⟨r2, rfl, h⟩ := h
  show EV Γ ML_quotient d 8 [some (.ref v0), some (.int v1), some (.int v2), some (.ref v3), none] [.int r2, .int 0, .ref v3] σ1 Q
  refine EV.i2l 9 rfl dL_quotient_8 ?_
  obtain ⟨n5, w4, h⟩ := h
  obtain ⟨j6, x7, h⟩ := h
  refine EV.last 10 rfl dL_quotient_9 w4 x7 (EV.nm (fun σ8 e9 => ?_))
  have h := h σ8 e9
  have w10 := tr_hs (hs_setJ_of e9) w4
  refine EV.goto 29 (by decide) dL_quotient_10 ?_
  refine EV.iconst 30 rfl dL_quotient_29 (v := 0) (by decide) ?_
  exact EV.iret rfl dL_quotient_30 h
theorem eL_quotient {Γ : Gm} {d : Nat} {σ : AH} {Q : Oc → AH → Prop} {v0 : Nat} {v1 : Int32} {v2 : Int32} {v3 : Nat} (h : hs σ v0 = some (6, 17) ∧ CI Γ d MX8_quotient [.ref v0, .int v1, .int v2] σ (fun r2 σ1 => ∃ n5 : Nat, hs σ1 v3 = some (23, n5) ∧ ∃ j6 : Nat, IX 0 n5 j6 ∧ ∀ σ8 : AH, σ8 = setJ σ1 v3 j6 (Int32.toInt64 r2) → Q (.inl (some (.int 0))) σ8) (fun E σ1 => ∃ w : Int32, CAT ML_quotient 5 E w ∧ Q (.inl (some (.int w))) σ1)) : RUN Γ d ML_quotient [.ref v0, .int v1, .int v2, .ref v3] σ Q :=
  EV.enterH [some (.ref v0), some (.int v1), some (.int v2), some (.ref v3), none] rfl (by decide +kernel) (Nat.le_of_ble_eq_true rfl) rfl (gL_quotient_0 h)
theorem gL_remainder_0 {Γ : Gm} {d : Nat} {σ : AH} {Q : Oc → AH → Prop} {v0 : Nat} {v1 : Int32} {v2 : Int32} {v3 : Nat} (h : hs σ v0 = some (6, 17) ∧ CI Γ d MX8_remainder [.ref v0, .int v1, .int v2] σ (fun r2 σ1 => ∃ n5 : Nat, hs σ1 v3 = some (23, n5) ∧ ∃ j6 : Nat, IX 0 n5 j6 ∧ ∀ σ8 : AH, σ8 = setJ σ1 v3 j6 (Int32.toInt64 r2) → Q (.inl (some (.int 0))) σ8) (fun E σ1 => ∃ w : Int32, CAT ML_remainder 5 E w ∧ Q (.inl (some (.int w))) σ1)) : EV Γ ML_remainder d 0 [some (.ref v0), some (.int v1), some (.int v2), some (.ref v3), none] [] σ Q := by
  refine EV.aload_n 1 rfl 3 rfl rfl dL_remainder_0 ?_
  refine EV.iconst 2 rfl dL_remainder_1 (v := 0) (by decide) ?_
  refine EV.aload_n 3 rfl 0 rfl rfl dL_remainder_2 ?_
  refine EV.iload_n 4 rfl 1 rfl rfl dL_remainder_3 ?_
  refine EV.iload_n 5 rfl 2 rfl rfl dL_remainder_4 ?_
  obtain ⟨w3, h⟩ := h
  refine EV.cVC rfl rfl lk_L_68 rfl (vs := [.int v1, .int v2]) (st := [.int 0, .ref v3]) rfl rfl (Nat.le_of_ble_eq_true rfl) dL_remainder_5 w3 h (fun v σ1 h => ?_)
  obtain ⟨r2, rfl, h⟩ := h
  show EV Γ ML_remainder d 8 [some (.ref v0), some (.int v1), some (.int v2), some (.ref v3), none] [.int r2, .int 0, .ref v3] σ1 Q
  refine EV.i2l 9 rfl dL_remainder_8 ?_
  obtain ⟨n5, w4, h⟩ := h
  obtain ⟨j6, x7, h⟩ := h
  refine EV.last 10 rfl dL_remainder_9 w4 x7 (EV.nm (fun σ8 e9 => ?_))
  have h := h σ8 e9
  have w10 := tr_hs (hs_setJ_of e9) w4
  refine EV.goto 29 (by decide) dL_remainder_10 ?_
  refine EV.iconst 30 rfl dL_remainder_29 (v := 0) (by decide) ?_
  exact EV.iret rfl dL_remainder_30 h
theorem eL_remainder {Γ : Gm} {d : Nat} {σ : AH} {Q : Oc → AH → Prop} {v0 : Nat} {v1 : Int32} {v2 : Int32} {v3 : Nat} (h : hs σ v0 = some (6, 17) ∧ CI Γ d MX8_remainder [.ref v0, .int v1, .int v2] σ (fun r2 σ1 => ∃ n5 : Nat, hs σ1 v3 = some (23, n5) ∧ ∃ j6 : Nat, IX 0 n5 j6 ∧ ∀ σ8 : AH, σ8 = setJ σ1 v3 j6 (Int32.toInt64 r2) → Q (.inl (some (.int 0))) σ8) (fun E σ1 => ∃ w : Int32, CAT ML_remainder 5 E w ∧ Q (.inl (some (.int w))) σ1)) : RUN Γ d ML_remainder [.ref v0, .int v1, .int v2, .ref v3] σ Q :=
  EV.enterH [some (.ref v0), some (.int v1), some (.int v2), some (.ref v3), none] rfl (by decide +kernel) (Nat.le_of_ble_eq_true rfl) rfl (gL_remainder_0 h)
theorem gL_supersets_0 {Γ : Gm} {d : Nat} {σ : AH} {Q : Oc → AH → Prop} {v0 : Nat} {v1 : Int32} {v2 : Int32} {v3 : Nat} (h : hs σ v0 = some (6, 17) ∧ CI Γ d MX8_supersets [.ref v0, .int v1, .int v2] σ (fun r2 σ1 => ∃ n5 : Nat, hs σ1 v3 = some (23, n5) ∧ ∃ j6 : Nat, IX 0 n5 j6 ∧ ∀ σ8 : AH, σ8 = setJ σ1 v3 j6 (Int32.toInt64 r2) → Q (.inl (some (.int 0))) σ8) (fun E σ1 => ∃ w : Int32, CAT ML_supersets 5 E w ∧ Q (.inl (some (.int w))) σ1)) : EV Γ ML_supersets d 0 [some (.ref v0), some (.int v1), some (.int v2), some (.ref v3), none] [] σ Q := by
  refine EV.aload_n 1 rfl 3 rfl rfl dL_supersets_0 ?_
  refine EV.iconst 2 rfl dL_supersets_1 (v := 0) (by decide) ?_
  refine EV.aload_n 3 rfl 0 rfl rfl dL_supersets_2 ?_
  refine EV.iload_n 4 rfl 1 rfl rfl dL_supersets_3 ?_
  refine EV.iload_n 5 rfl 2 rfl rfl dL_supersets_4 ?_
  obtain ⟨w3, h⟩ := h
  refine EV.cVC rfl rfl lk_L_71 rfl (vs := [.int v1, .int v2]) (st := [.int 0, .ref v3]) rfl rfl (Nat.le_of_ble_eq_true rfl) dL_supersets_5 w3 h (fun v σ1 h => ?_)
  obtain ⟨r2, rfl, h⟩ := h
  show EV Γ ML_supersets d 8 [some (.ref v0), some (.int v1), some (.int v2), some (.ref v3), none] [.int r2, .int 0, .ref v3] σ1 Q
  refine EV.i2l 9 rfl dL_supersets_8 ?_
  obtain ⟨n5, w4, h⟩ := h
  obtain ⟨j6, x7, h⟩ := h
  refine EV.last 10 rfl dL_supersets_9 w4 x7 (EV.nm (fun σ8 e9 => ?_))
  have h := h σ8 e9
  have w10 := tr_hs (hs_setJ_of e9) w4
  refine EV.goto 25 (by decide) dL_supersets_10 ?_
  refine EV.iconst 26 rfl dL_supersets_25 (v := 0) (by decide) ?_
  exact EV.iret rfl dL_supersets_26 h
theorem eL_supersets {Γ : Gm} {d : Nat} {σ : AH} {Q : Oc → AH → Prop} {v0 : Nat} {v1 : Int32} {v2 : Int32} {v3 : Nat} (h : hs σ v0 = some (6, 17) ∧ CI Γ d MX8_supersets [.ref v0, .int v1, .int v2] σ (fun r2 σ1 => ∃ n5 : Nat, hs σ1 v3 = some (23, n5) ∧ ∃ j6 : Nat, IX 0 n5 j6 ∧ ∀ σ8 : AH, σ8 = setJ σ1 v3 j6 (Int32.toInt64 r2) → Q (.inl (some (.int 0))) σ8) (fun E σ1 => ∃ w : Int32, CAT ML_supersets 5 E w ∧ Q (.inl (some (.int w))) σ1)) : RUN Γ d ML_supersets [.ref v0, .int v1, .int v2, .ref v3] σ Q :=
  EV.enterH [some (.ref v0), some (.int v1), some (.int v2), some (.ref v3), none] rfl (by decide +kernel) (Nat.le_of_ble_eq_true rfl) rfl (gL_supersets_0 h)
theorem gL_subsets_0 {Γ : Gm} {d : Nat} {σ : AH} {Q : Oc → AH → Prop} {v0 : Nat} {v1 : Int32} {v2 : Int32} {v3 : Nat} (h : hs σ v0 = some (6, 17) ∧ CI Γ d MX8_subsets [.ref v0, .int v1, .int v2] σ (fun r2 σ1 => ∃ n5 : Nat, hs σ1 v3 = some (23, n5) ∧ ∃ j6 : Nat, IX 0 n5 j6 ∧ ∀ σ8 : AH, σ8 = setJ σ1 v3 j6 (Int32.toInt64 r2) → Q (.inl (some (.int 0))) σ8) (fun E σ1 => ∃ w : Int32, CAT ML_subsets 5 E w ∧ Q (.inl (some (.int w))) σ1)) : EV Γ ML_subsets d 0 [some (.ref v0), some (.int v1), some (.int v2), some (.ref v3), none] [] σ Q := by
  refine EV.aload_n 1 rfl 3 rfl rfl dL_subsets_0 ?_
  refine EV.iconst 2 rfl dL_subsets_1 (v := 0) (by decide) ?_
  refine EV.aload_n 3 rfl 0 rfl rfl dL_subsets_2 ?_
  refine EV.iload_n 4 rfl 1 rfl rfl dL_subsets_3 ?_
  refine EV.iload_n 5 rfl 2 rfl rfl dL_subsets_4 ?_
  obtain ⟨w3, h⟩ := h
  refine EV.cVC rfl rfl lk_L_74 rfl (vs := [.int v1, .int v2]) (st := [.int 0, .ref v3]) rfl rfl (Nat.le_of_ble_eq_true rfl) dL_subsets_5 w3 h (fun v σ1 h => ?_)
  obtain ⟨r2, rfl, h⟩ := h
  show EV Γ ML_subsets d 8 [some (.ref v0), some (.int v1), some (.int v2), some (.ref v3), none] [.int r2, .int 0, .ref v3] σ1 Q
  refine EV.i2l 9 rfl dL_subsets_8 ?_
  obtain ⟨n5, w4, h⟩ := h
  obtain ⟨j6, x7, h⟩ := h
  refine EV.last 10 rfl dL_subsets_9 w4 x7 (EV.nm (fun σ8 e9 => ?_))
  have h := h σ8 e9
  have w10 := tr_hs (hs_setJ_of e9) w4
  refine EV.goto 25 (by decide) dL_subsets_10 ?_
  refine EV.iconst 26 rfl dL_subsets_25 (v := 0) (by decide) ?_
  exact EV.iret rfl dL_subsets_26 h
theorem eL_subsets {Γ : Gm} {d : Nat} {σ : AH} {Q : Oc → AH → Prop} {v0 : Nat} {v1 : Int32} {v2 : Int32} {v3 : Nat} (h : hs σ v0 = some (6, 17) ∧ CI Γ d MX8_subsets [.ref v0, .int v1, .int v2] σ (fun r2 σ1 => ∃ n5 : Nat, hs σ1 v3 = some (23, n5) ∧ ∃ j6 : Nat, IX 0 n5 j6 ∧ ∀ σ8 : AH, σ8 = setJ σ1 v3 j6 (Int32.toInt64 r2) → Q (.inl (some (.int 0))) σ8) (fun E σ1 => ∃ w : Int32, CAT ML_subsets 5 E w ∧ Q (.inl (some (.int w))) σ1)) : RUN Γ d ML_subsets [.ref v0, .int v1, .int v2, .ref v3] σ Q :=
  EV.enterH [some (.ref v0), some (.int v1), some (.int v2), some (.ref v3), none] rfl (by decide +kernel) (Nat.le_of_ble_eq_true rfl) rfl (gL_subsets_0 h)
theorem gL_maximal_0 {Γ : Gm} {d : Nat} {σ : AH} {Q : Oc → AH → Prop} {v0 : Nat} {v1 : Int32} {v2 : Nat} (h : hs σ v0 = some (6, 17) ∧ CI Γ d MX8_maximal [.ref v0, .int v1] σ (fun r2 σ1 => ∃ n5 : Nat, hs σ1 v2 = some (23, n5) ∧ ∃ j6 : Nat, IX 0 n5 j6 ∧ ∀ σ8 : AH, σ8 = setJ σ1 v2 j6 (Int32.toInt64 r2) → Q (.inl (some (.int 0))) σ8) (fun E σ1 => ∃ w : Int32, CAT ML_maximal 4 E w ∧ Q (.inl (some (.int w))) σ1)) : EV Γ ML_maximal d 0 [some (.ref v0), some (.int v1), some (.ref v2), none] [] σ Q := by
  refine EV.aload_n 1 rfl 2 rfl rfl dL_maximal_0 ?_
  refine EV.iconst 2 rfl dL_maximal_1 (v := 0) (by decide) ?_
  refine EV.aload_n 3 rfl 0 rfl rfl dL_maximal_2 ?_
  refine EV.iload_n 4 rfl 1 rfl rfl dL_maximal_3 ?_
  obtain ⟨w3, h⟩ := h
  refine EV.cVC rfl rfl lk_L_77 rfl (vs := [.int v1]) (st := [.int 0, .ref v2]) rfl rfl (Nat.le_of_ble_eq_true rfl) dL_maximal_4 w3 h (fun v σ1 h => ?_)
  obtain ⟨r2, rfl, h⟩ := h
  show EV Γ ML_maximal d 7 [some (.ref v0), some (.int v1), some (.ref v2), none] [.int r2, .int 0, .ref v2] σ1 Q
  refine EV.i2l 8 rfl dL_maximal_7 ?_
  obtain ⟨n5, w4, h⟩ := h
  obtain ⟨j6, x7, h⟩ := h
  refine EV.last 9 rfl dL_maximal_8 w4 x7 (EV.nm (fun σ8 e9 => ?_))
  have h := h σ8 e9
  have w10 := tr_hs (hs_setJ_of e9) w4
  refine EV.goto 21 (by decide) dL_maximal_9 ?_
  refine EV.iconst 22 rfl dL_maximal_21 (v := 0) (by decide) ?_
  exact EV.iret rfl dL_maximal_22 h
theorem eL_maximal {Γ : Gm} {d : Nat} {σ : AH} {Q : Oc → AH → Prop} {v0 : Nat} {v1 : Int32} {v2 : Nat} (h : hs σ v0 = some (6, 17) ∧ CI Γ d MX8_maximal [.ref v0, .int v1] σ (fun r2 σ1 => ∃ n5 : Nat, hs σ1 v2 = some (23, n5) ∧ ∃ j6 : Nat, IX 0 n5 j6 ∧ ∀ σ8 : AH, σ8 = setJ σ1 v2 j6 (Int32.toInt64 r2) → Q (.inl (some (.int 0))) σ8) (fun E σ1 => ∃ w : Int32, CAT ML_maximal 4 E w ∧ Q (.inl (some (.int w))) σ1)) : RUN Γ d ML_maximal [.ref v0, .int v1, .ref v2] σ Q :=
  EV.enterH [some (.ref v0), some (.int v1), some (.ref v2), none] rfl (by decide +kernel) (Nat.le_of_ble_eq_true rfl) rfl (gL_maximal_0 h)
theorem gL_minimal_0 {Γ : Gm} {d : Nat} {σ : AH} {Q : Oc → AH → Prop} {v0 : Nat} {v1 : Int32} {v2 : Nat} (h : hs σ v0 = some (6, 17) ∧ CI Γ d MX8_minimal [.ref v0, .int v1] σ (fun r2 σ1 => ∃ n5 : Nat, hs σ1 v2 = some (23, n5) ∧ ∃ j6 : Nat, IX 0 n5 j6 ∧ ∀ σ8 : AH, σ8 = setJ σ1 v2 j6 (Int32.toInt64 r2) → Q (.inl (some (.int 0))) σ8) (fun E σ1 => ∃ w : Int32, CAT ML_minimal 4 E w ∧ Q (.inl (some (.int w))) σ1)) : EV Γ ML_minimal d 0 [some (.ref v0), some (.int v1), some (.ref v2), none] [] σ Q := by
  refine EV.aload_n 1 rfl 2 rfl rfl dL_minimal_0 ?_
  refine EV.iconst 2 rfl dL_minimal_1 (v := 0) (by decide) ?_
  refine EV.aload_n 3 rfl 0 rfl rfl dL_minimal_2 ?_
  refine EV.iload_n 4 rfl 1 rfl rfl dL_minimal_3 ?_
  obtain ⟨w3, h⟩ := h
  refine EV.cVC rfl rfl lk_L_80 rfl (vs := [.int v1]) (st := [.int 0, .ref v2]) rfl rfl (Nat.le_of_ble_eq_true rfl) dL_minimal_4 w3 h (fun v σ1 h => ?_)
  obtain ⟨r2, rfl, h⟩ := h
  show EV Γ ML_minimal d 7 [some (.ref v0), some (.int v1), some (.ref v2), none] [.int r2, .int 0, .ref v2] σ1 Q
  refine EV.i2l 8 rfl dL_minimal_7 ?_
  obtain ⟨n5, w4, h⟩ := h
  obtain ⟨j6, x7, h⟩ := h
  refine EV.last 9 rfl dL_minimal_8 w4 x7 (EV.nm (fun σ8 e9 => ?_))
  have h := h σ8 e9
  have w10 := tr_hs (hs_setJ_of e9) w4
  refine EV.goto 21 (by decide) dL_minimal_9 ?_
  refine EV.iconst 22 rfl dL_minimal_21 (v := 0) (by decide) ?_
  exact EV.iret rfl dL_minimal_22 h
theorem eL_minimal {Γ : Gm} {d : Nat} {σ : AH} {Q : Oc → AH → Prop} {v0 : Nat} {v1 : Int32} {v2 : Nat} (h : hs σ v0 = some (6, 17) ∧ CI Γ d MX8_minimal [.ref v0, .int v1] σ (fun r2 σ1 => ∃ n5 : Nat, hs σ1 v2 = some (23, n5) ∧ ∃ j6 : Nat, IX 0 n5 j6 ∧ ∀ σ8 : AH, σ8 = setJ σ1 v2 j6 (Int32.toInt64 r2) → Q (.inl (some (.int 0))) σ8) (fun E σ1 => ∃ w : Int32, CAT ML_minimal 4 E w ∧ Q (.inl (some (.int w))) σ1)) : RUN Γ d ML_minimal [.ref v0, .int v1, .ref v2] σ Q :=
  EV.enterH [some (.ref v0), some (.int v1), some (.ref v2), none] rfl (by decide +kernel) (Nat.le_of_ble_eq_true rfl) rfl (gL_minimal_0 h)
theorem gL_hitting_0 {Γ : Gm} {d : Nat} {σ : AH} {Q : Oc → AH → Prop} {v0 : Nat} {v1 : Int32} {v2 : Nat} (h : hs σ v0 = some (6, 17) ∧ CI Γ d MX8_hitting [.ref v0, .int v1] σ (fun r2 σ1 => ∃ n5 : Nat, hs σ1 v2 = some (23, n5) ∧ ∃ j6 : Nat, IX 0 n5 j6 ∧ ∀ σ8 : AH, σ8 = setJ σ1 v2 j6 (Int32.toInt64 r2) → Q (.inl (some (.int 0))) σ8) (fun E σ1 => ∃ w : Int32, CAT ML_hitting 4 E w ∧ Q (.inl (some (.int w))) σ1)) : EV Γ ML_hitting d 0 [some (.ref v0), some (.int v1), some (.ref v2), none] [] σ Q := by
  refine EV.aload_n 1 rfl 2 rfl rfl dL_hitting_0 ?_
  refine EV.iconst 2 rfl dL_hitting_1 (v := 0) (by decide) ?_
  refine EV.aload_n 3 rfl 0 rfl rfl dL_hitting_2 ?_
  refine EV.iload_n 4 rfl 1 rfl rfl dL_hitting_3 ?_
  obtain ⟨w3, h⟩ := h
  refine EV.cVC rfl rfl lk_L_83 rfl (vs := [.int v1]) (st := [.int 0, .ref v2]) rfl rfl (Nat.le_of_ble_eq_true rfl) dL_hitting_4 w3 h (fun v σ1 h => ?_)
  obtain ⟨r2, rfl, h⟩ := h
  show EV Γ ML_hitting d 7 [some (.ref v0), some (.int v1), some (.ref v2), none] [.int r2, .int 0, .ref v2] σ1 Q
  refine EV.i2l 8 rfl dL_hitting_7 ?_
  obtain ⟨n5, w4, h⟩ := h
  obtain ⟨j6, x7, h⟩ := h
  refine EV.last 9 rfl dL_hitting_8 w4 x7 (EV.nm (fun σ8 e9 => ?_))
  have h := h σ8 e9
  have w10 := tr_hs (hs_setJ_of e9) w4
  refine EV.goto 21 (by decide) dL_hitting_9 ?_
  refine EV.iconst 22 rfl dL_hitting_21 (v := 0) (by decide) ?_
  exact EV.iret rfl dL_hitting_22 h
theorem eL_hitting {Γ : Gm} {d : Nat} {σ : AH} {Q : Oc → AH → Prop} {v0 : Nat} {v1 : Int32} {v2 : Nat} (h : hs σ v0 = some (6, 17) ∧ CI Γ d MX8_hitting [.ref v0, .int v1] σ (fun r2 σ1 => ∃ n5 : Nat, hs σ1 v2 = some (23, n5) ∧ ∃ j6 : Nat, IX 0 n5 j6 ∧ ∀ σ8 : AH, σ8 = setJ σ1 v2 j6 (Int32.toInt64 r2) → Q (.inl (some (.int 0))) σ8) (fun E σ1 => ∃ w : Int32, CAT ML_hitting 4 E w ∧ Q (.inl (some (.int w))) σ1)) : RUN Γ d ML_hitting [.ref v0, .int v1, .ref v2] σ Q :=
  EV.enterH [some (.ref v0), some (.int v1), some (.ref v2), none] rfl (by decide +kernel) (Nat.le_of_ble_eq_true rfl) rfl (gL_hitting_0 h)
theorem gL_closure_0 {Γ : Gm} {d : Nat} {σ : AH} {Q : Oc → AH → Prop} {v0 : Nat} {v1 : Int32} {v2 : Nat} (h : hs σ v0 = some (6, 17) ∧ CI Γ d MX8_closure [.ref v0, .int v1] σ (fun r2 σ1 => ∃ n5 : Nat, hs σ1 v2 = some (23, n5) ∧ ∃ j6 : Nat, IX 0 n5 j6 ∧ ∀ σ8 : AH, σ8 = setJ σ1 v2 j6 (Int32.toInt64 r2) → Q (.inl (some (.int 0))) σ8) (fun E σ1 => ∃ w : Int32, CAT ML_closure 4 E w ∧ Q (.inl (some (.int w))) σ1)) : EV Γ ML_closure d 0 [some (.ref v0), some (.int v1), some (.ref v2), none] [] σ Q := by
  refine EV.aload_n 1 rfl 2 rfl rfl dL_closure_0 ?_
  refine EV.iconst 2 rfl dL_closure_1 (v := 0) (by decide) ?_
  refine EV.aload_n 3 rfl 0 rfl rfl dL_closure_2 ?_
  refine EV.iload_n 4 rfl 1 rfl rfl dL_closure_3 ?_
  obtain ⟨w3, h⟩ := h
  refine EV.cVC rfl rfl lk_L_86 rfl (vs := [.int v1]) (st := [.int 0, .ref v2]) rfl rfl (Nat.le_of_ble_eq_true rfl) dL_closure_4 w3 h (fun v σ1 h => ?_)
  obtain ⟨r2, rfl, h⟩ := h
  show EV Γ ML_closure d 7 [some (.ref v0), some (.int v1), some (.ref v2), none] [.int r2, .int 0, .ref v2] σ1 Q
  refine EV.i2l 8 rfl dL_closure_7 ?_
  obtain ⟨n5, w4, h⟩ := h
  obtain ⟨j6, x7, h⟩ := h
  refine EV.last 9 rfl dL_closure_8 w4 x7 (EV.nm (fun σ8 e9 => ?_))
  have h := h σ8 e9
  have w10 := tr_hs (hs_setJ_of e9) w4
  refine EV.goto 21 (by decide) dL_closure_9 ?_
  refine EV.iconst 22 rfl dL_closure_21 (v := 0) (by decide) ?_
  exact EV.iret rfl dL_closure_22 h
theorem eL_closure {Γ : Gm} {d : Nat} {σ : AH} {Q : Oc → AH → Prop} {v0 : Nat} {v1 : Int32} {v2 : Nat} (h : hs σ v0 = some (6, 17) ∧ CI Γ d MX8_closure [.ref v0, .int v1] σ (fun r2 σ1 => ∃ n5 : Nat, hs σ1 v2 = some (23, n5) ∧ ∃ j6 : Nat, IX 0 n5 j6 ∧ ∀ σ8 : AH, σ8 = setJ σ1 v2 j6 (Int32.toInt64 r2) → Q (.inl (some (.int 0))) σ8) (fun E σ1 => ∃ w : Int32, CAT ML_closure 4 E w ∧ Q (.inl (some (.int w))) σ1)) : RUN Γ d ML_closure [.ref v0, .int v1, .ref v2] σ Q :=
  EV.enterH [some (.ref v0), some (.int v1), some (.ref v2), none] rfl (by decide +kernel) (Nat.le_of_ble_eq_true rfl) rfl (gL_closure_0 h)
theorem gL_change_0 {Γ : Gm} {d : Nat} {σ : AH} {Q : Oc → AH → Prop} {v0 : Nat} {v1 : Int32} {v2 : Int32} {v3 : Nat} (h : hs σ v0 = some (6, 17) ∧ CI Γ d MX8_change [.ref v0, .int v1, .int v2] σ (fun r2 σ1 => ∃ n5 : Nat, hs σ1 v3 = some (23, n5) ∧ ∃ j6 : Nat, IX 0 n5 j6 ∧ ∀ σ8 : AH, σ8 = setJ σ1 v3 j6 (Int32.toInt64 r2) → Q (.inl (some (.int 0))) σ8) (fun E σ1 => ∃ w : Int32, CAT ML_change 5 E w ∧ Q (.inl (some (.int w))) σ1)) : EV Γ ML_change d 0 [some (.ref v0), some (.int v1), some (.int v2), some (.ref v3), none] [] σ Q := by
  refine EV.aload_n 1 rfl 3 rfl rfl dL_change_0 ?_
  refine EV.iconst 2 rfl dL_change_1 (v := 0) (by decide) ?_
  refine EV.aload_n 3 rfl 0 rfl rfl dL_change_2 ?_
  refine EV.iload_n 4 rfl 1 rfl rfl dL_change_3 ?_
  refine EV.iload_n 5 rfl 2 rfl rfl dL_change_4 ?_
  obtain ⟨w3, h⟩ := h
  refine EV.cVC rfl rfl lk_L_89 rfl (vs := [.int v1, .int v2]) (st := [.int 0, .ref v3]) rfl rfl (Nat.le_of_ble_eq_true rfl) dL_change_5 w3 h (fun v σ1 h => ?_)
  obtain ⟨r2, rfl, h⟩ := h
  show EV Γ ML_change d 8 [some (.ref v0), some (.int v1), some (.int v2), some (.ref v3), none] [.int r2, .int 0, .ref v3] σ1 Q
  refine EV.i2l 9 rfl dL_change_8 ?_
  obtain ⟨n5, w4, h⟩ := h
  obtain ⟨j6, x7, h⟩ := h
  refine EV.last 10 rfl dL_change_9 w4 x7 (EV.nm (fun σ8 e9 => ?_))
  have h := h σ8 e9
  have w10 := tr_hs (hs_setJ_of e9) w4
  refine EV.goto 25 (by decide) dL_change_10 ?_
  refine EV.iconst 26 rfl dL_change_25 (v := 0) (by decide) ?_
  exact EV.iret rfl dL_change_26 h
theorem eL_change {Γ : Gm} {d : Nat} {σ : AH} {Q : Oc → AH → Prop} {v0 : Nat} {v1 : Int32} {v2 : Int32} {v3 : Nat} (h : hs σ v0 = some (6, 17) ∧ CI Γ d MX8_change [.ref v0, .int v1, .int v2] σ (fun r2 σ1 => ∃ n5 : Nat, hs σ1 v3 = some (23, n5) ∧ ∃ j6 : Nat, IX 0 n5 j6 ∧ ∀ σ8 : AH, σ8 = setJ σ1 v3 j6 (Int32.toInt64 r2) → Q (.inl (some (.int 0))) σ8) (fun E σ1 => ∃ w : Int32, CAT ML_change 5 E w ∧ Q (.inl (some (.int w))) σ1)) : RUN Γ d ML_change [.ref v0, .int v1, .int v2, .ref v3] σ Q :=
  EV.enterH [some (.ref v0), some (.int v1), some (.int v2), some (.ref v3), none] rfl (by decide +kernel) (Nat.le_of_ble_eq_true rfl) rfl (gL_change_0 h)
theorem gL_withCost_0 {Γ : Gm} {d : Nat} {σ : AH} {Q : Oc → AH → Prop} {v0 : Nat} {v1 : Int32} {v2 : Int32} {v3 : Int32} {v4 : Nat} (h : hs σ v0 = some (6, 17) ∧ CI Γ d MX8_withCost [.ref v0, .int v1, .int v2, .int v3] σ (fun r2 σ1 => ∃ n5 : Nat, hs σ1 v4 = some (23, n5) ∧ ∃ j6 : Nat, IX 0 n5 j6 ∧ ∀ σ8 : AH, σ8 = setJ σ1 v4 j6 (Int32.toInt64 r2) → Q (.inl (some (.int 0))) σ8) (fun E σ1 => ∃ w : Int32, CAT ML_withCost 7 E w ∧ Q (.inl (some (.int w))) σ1)) : EV Γ ML_withCost d 0 [some (.ref v0), some (.int v1), some (.int v2), some (.int v3), some (.ref v4), none] [] σ Q := by
  refine EV.aload 2 rfl rfl dL_withCost_0 ?_
  refine EV.iconst 3 rfl dL_withCost_2 (v := 0) (by decide) ?_
  refine EV.aload_n 4 rfl 0 rfl rfl dL_withCost_3 ?_
  refine EV.iload_n 5 rfl 1 rfl rfl dL_withCost_4 ?_
  refine EV.iload_n 6 rfl 2 rfl rfl dL_withCost_5 ?_
  refine EV.iload_n 7 rfl 3 rfl rfl dL_withCost_6 ?_
  obtain ⟨w3, h⟩ := h
  refine EV.cVC rfl rfl lk_L_92 rfl (vs := [.int v1, .int v2, .int v3]) (st := [.int 0, .ref v4]) rfl rfl (Nat.le_of_ble_eq_true rfl) dL_withCost_7 w3 h (fun v σ1 h => ?_)
  obtain ⟨r2, rfl, h⟩ := h
  show EV Γ ML_withCost d 10 [some (.ref v0), some (.int v1), some (.int v2), some (.int v3), some (.ref v4), none] [.int r2, .int 0, .ref v4] σ1 Q
  refine EV.i2l 11 rfl dL_withCost_10 ?_
  obtain ⟨n5, w4, h⟩ := h
  obtain ⟨j6, x7, h⟩ := h
  refine EV.last 12 rfl dL_withCost_11 w4 x7 (EV.nm (fun σ8 e9 => ?_))
  have h := h σ8 e9
  have w10 := tr_hs (hs_setJ_of e9) w4
  refine EV.goto 27 (by decide) dL_withCost_12 ?_
  refine EV.iconst 28 rfl dL_withCost_27 (v := 0) (by decide) ?_
  exact EV.iret rfl dL_withCost_28 h
theorem eL_withCost {Γ : Gm} {d : Nat} {σ : AH} {Q : Oc → AH → Prop} {v0 : Nat} {v1 : Int32} {v2 : Int32} {v3 : Int32} {v4 : Nat} (h : hs σ v0 = some (6, 17) ∧ CI Γ d MX8_withCost [.ref v0, .int v1, .int v2, .int v3] σ (fun r2 σ1 => ∃ n5 : Nat, hs σ1 v4 = some (23, n5) ∧ ∃ j6 : Nat, IX 0 n5 j6 ∧ ∀ σ8 : AH, σ8 = setJ σ1 v4 j6 (Int32.toInt64 r2) → Q (.inl (some (.int 0))) σ8) (fun E σ1 => ∃ w : Int32, CAT ML_withCost 7 E w ∧ Q (.inl (some (.int w))) σ1)) : RUN Γ d ML_withCost [.ref v0, .int v1, .int v2, .int v3, .ref v4] σ Q :=
  EV.enterH [some (.ref v0), some (.int v1), some (.int v2), some (.int v3), some (.ref v4), none] rfl (by decide +kernel) (Nat.le_of_ble_eq_true rfl) rfl (gL_withCost_0 h)
theorem gL_count_0 {Γ : Gm} {d : Nat} {σ : AH} {Q : Oc → AH → Prop} {v0 : Nat} {v1 : Int32} {v2 : Nat} (h : hs σ v0 = some (6, 17) ∧ CI Γ d MX8_count [.ref v0, .int v1] σ (fun r2 σ1 => ∃ n5 : Nat, hs σ1 v2 = some (23, n5) ∧ ∃ j6 : Nat, IX 0 n5 j6 ∧ ∀ σ8 : AH, σ8 = setJ σ1 v2 j6 (Int32.toInt64 r2) → Q (.inl (some (.int 0))) σ8) (fun E σ1 => ∃ w : Int32, CAT ML_count 4 E w ∧ Q (.inl (some (.int w))) σ1)) : EV Γ ML_count d 0 [some (.ref v0), some (.int v1), some (.ref v2), none] [] σ Q := by
  refine EV.aload_n 1 rfl 2 rfl rfl dL_count_0 ?_
  refine EV.iconst 2 rfl dL_count_1 (v := 0) (by decide) ?_
  refine EV.aload_n 3 rfl 0 rfl rfl dL_count_2 ?_
  refine EV.iload_n 4 rfl 1 rfl rfl dL_count_3 ?_
  obtain ⟨w3, h⟩ := h
  refine EV.cVC rfl rfl lk_L_96 rfl (vs := [.int v1]) (st := [.int 0, .ref v2]) rfl rfl (Nat.le_of_ble_eq_true rfl) dL_count_4 w3 h (fun v σ1 h => ?_)
  obtain ⟨r2, rfl, h⟩ := h
  show EV Γ ML_count d 7 [some (.ref v0), some (.int v1), some (.ref v2), none] [.int r2, .int 0, .ref v2] σ1 Q
  refine EV.i2l 8 rfl dL_count_7 ?_
  obtain ⟨n5, w4, h⟩ := h
  obtain ⟨j6, x7, h⟩ := h
  refine EV.last 9 rfl dL_count_8 w4 x7 (EV.nm (fun σ8 e9 => ?_))
  have h := h σ8 e9
  have w10 := tr_hs (hs_setJ_of e9) w4
  refine EV.goto 18 (by decide) dL_count_9 ?_
  refine EV.iconst 19 rfl dL_count_18 (v := 0) (by decide) ?_
  exact EV.iret rfl dL_count_19 h
theorem eL_count {Γ : Gm} {d : Nat} {σ : AH} {Q : Oc → AH → Prop} {v0 : Nat} {v1 : Int32} {v2 : Nat} (h : hs σ v0 = some (6, 17) ∧ CI Γ d MX8_count [.ref v0, .int v1] σ (fun r2 σ1 => ∃ n5 : Nat, hs σ1 v2 = some (23, n5) ∧ ∃ j6 : Nat, IX 0 n5 j6 ∧ ∀ σ8 : AH, σ8 = setJ σ1 v2 j6 (Int32.toInt64 r2) → Q (.inl (some (.int 0))) σ8) (fun E σ1 => ∃ w : Int32, CAT ML_count 4 E w ∧ Q (.inl (some (.int w))) σ1)) : RUN Γ d ML_count [.ref v0, .int v1, .ref v2] σ Q :=
  EV.enterH [some (.ref v0), some (.int v1), some (.ref v2), none] rfl (by decide +kernel) (Nat.le_of_ble_eq_true rfl) rfl (gL_count_0 h)
theorem gL_countOfSize_0 {Γ : Gm} {d : Nat} {σ : AH} {Q : Oc → AH → Prop} {v0 : Nat} {v1 : Int32} {v2 : Int32} {v3 : Nat} (h : hs σ v0 = some (6, 17) ∧ CI Γ d MX8_countOfSize [.ref v0, .int v1, .int v2] σ (fun r2 σ1 => ∃ n5 : Nat, hs σ1 v3 = some (23, n5) ∧ ∃ j6 : Nat, IX 0 n5 j6 ∧ ∀ σ8 : AH, σ8 = setJ σ1 v3 j6 (Int32.toInt64 r2) → Q (.inl (some (.int 0))) σ8) (fun E σ1 => ∃ w : Int32, CAT ML_countOfSize 5 E w ∧ Q (.inl (some (.int w))) σ1)) : EV Γ ML_countOfSize d 0 [some (.ref v0), some (.int v1), some (.int v2), some (.ref v3), none] [] σ Q := by
  refine EV.aload_n 1 rfl 3 rfl rfl dL_countOfSize_0 ?_
  refine EV.iconst 2 rfl dL_countOfSize_1 (v := 0) (by decide) ?_
  refine EV.aload_n 3 rfl 0 rfl rfl dL_countOfSize_2 ?_
  refine EV.iload_n 4 rfl 1 rfl rfl dL_countOfSize_3 ?_
  refine EV.iload_n 5 rfl 2 rfl rfl dL_countOfSize_4 ?_
  obtain ⟨w3, h⟩ := h
  refine EV.cVC rfl rfl lk_L_99 rfl (vs := [.int v1, .int v2]) (st := [.int 0, .ref v3]) rfl rfl (Nat.le_of_ble_eq_true rfl) dL_countOfSize_5 w3 h (fun v σ1 h => ?_)
  obtain ⟨r2, rfl, h⟩ := h
  show EV Γ ML_countOfSize d 8 [some (.ref v0), some (.int v1), some (.int v2), some (.ref v3), none] [.int r2, .int 0, .ref v3] σ1 Q
  refine EV.i2l 9 rfl dL_countOfSize_8 ?_
  obtain ⟨n5, w4, h⟩ := h
  obtain ⟨j6, x7, h⟩ := h
  refine EV.last 10 rfl dL_countOfSize_9 w4 x7 (EV.nm (fun σ8 e9 => ?_))
  have h := h σ8 e9
  have w10 := tr_hs (hs_setJ_of e9) w4
  refine EV.goto 21 (by decide) dL_countOfSize_10 ?_
  refine EV.iconst 22 rfl dL_countOfSize_21 (v := 0) (by decide) ?_
  exact EV.iret rfl dL_countOfSize_22 h
theorem eL_countOfSize {Γ : Gm} {d : Nat} {σ : AH} {Q : Oc → AH → Prop} {v0 : Nat} {v1 : Int32} {v2 : Int32} {v3 : Nat} (h : hs σ v0 = some (6, 17) ∧ CI Γ d MX8_countOfSize [.ref v0, .int v1, .int v2] σ (fun r2 σ1 => ∃ n5 : Nat, hs σ1 v3 = some (23, n5) ∧ ∃ j6 : Nat, IX 0 n5 j6 ∧ ∀ σ8 : AH, σ8 = setJ σ1 v3 j6 (Int32.toInt64 r2) → Q (.inl (some (.int 0))) σ8) (fun E σ1 => ∃ w : Int32, CAT ML_countOfSize 5 E w ∧ Q (.inl (some (.int w))) σ1)) : RUN Γ d ML_countOfSize [.ref v0, .int v1, .int v2, .ref v3] σ Q :=
  EV.enterH [some (.ref v0), some (.int v1), some (.int v2), some (.ref v3), none] rfl (by decide +kernel) (Nat.le_of_ble_eq_true rfl) rfl (gL_countOfSize_0 h)
theorem gL_countWith_0 {Γ : Gm} {d : Nat} {σ : AH} {Q : Oc → AH → Prop} {v0 : Nat} {v1 : Int32} {v2 : Int32} {v3 : Nat} (h : hs σ v0 = some (6, 17) ∧ CI Γ d MX8_countWith [.ref v0, .int v1, .int v2] σ (fun r2 σ1 => ∃ n5 : Nat, hs σ1 v3 = some (23, n5) ∧ ∃ j6 : Nat, IX 0 n5 j6 ∧ ∀ σ8 : AH, σ8 = setJ σ1 v3 j6 (Int32.toInt64 r2) → Q (.inl (some (.int 0))) σ8) (fun E σ1 => ∃ w : Int32, CAT ML_countWith 5 E w ∧ Q (.inl (some (.int w))) σ1)) : EV Γ ML_countWith d 0 [some (.ref v0), some (.int v1), some (.int v2), some (.ref v3), none] [] σ Q := by
  refine EV.aload_n 1 rfl 3 rfl rfl dL_countWith_0 ?_
  refine EV.iconst 2 rfl dL_countWith_1 (v := 0) (by decide) ?_
  refine EV.aload_n 3 rfl 0 rfl rfl dL_countWith_2 ?_
  refine EV.iload_n 4 rfl 1 rfl rfl dL_countWith_3 ?_
  refine EV.iload_n 5 rfl 2 rfl rfl dL_countWith_4 ?_
  obtain ⟨w3, h⟩ := h
  refine EV.cVC rfl rfl lk_L_102 rfl (vs := [.int v1, .int v2]) (st := [.int 0, .ref v3]) rfl rfl (Nat.le_of_ble_eq_true rfl) dL_countWith_5 w3 h (fun v σ1 h => ?_)
  obtain ⟨r2, rfl, h⟩ := h
  show EV Γ ML_countWith d 8 [some (.ref v0), some (.int v1), some (.int v2), some (.ref v3), none] [.int r2, .int 0, .ref v3] σ1 Q
  refine EV.i2l 9 rfl dL_countWith_8 ?_
  obtain ⟨n5, w4, h⟩ := h
  obtain ⟨j6, x7, h⟩ := h
  refine EV.last 10 rfl dL_countWith_9 w4 x7 (EV.nm (fun σ8 e9 => ?_))
  have h := h σ8 e9
  have w10 := tr_hs (hs_setJ_of e9) w4
  refine EV.goto 21 (by decide) dL_countWith_10 ?_
  refine EV.iconst 22 rfl dL_countWith_21 (v := 0) (by decide) ?_
  exact EV.iret rfl dL_countWith_22 h
theorem eL_countWith {Γ : Gm} {d : Nat} {σ : AH} {Q : Oc → AH → Prop} {v0 : Nat} {v1 : Int32} {v2 : Int32} {v3 : Nat} (h : hs σ v0 = some (6, 17) ∧ CI Γ d MX8_countWith [.ref v0, .int v1, .int v2] σ (fun r2 σ1 => ∃ n5 : Nat, hs σ1 v3 = some (23, n5) ∧ ∃ j6 : Nat, IX 0 n5 j6 ∧ ∀ σ8 : AH, σ8 = setJ σ1 v3 j6 (Int32.toInt64 r2) → Q (.inl (some (.int 0))) σ8) (fun E σ1 => ∃ w : Int32, CAT ML_countWith 5 E w ∧ Q (.inl (some (.int w))) σ1)) : RUN Γ d ML_countWith [.ref v0, .int v1, .int v2, .ref v3] σ Q :=
  EV.enterH [some (.ref v0), some (.int v1), some (.int v2), some (.ref v3), none] rfl (by decide +kernel) (Nat.le_of_ble_eq_true rfl) rfl (gL_countWith_0 h)
theorem gL_contains_0 {Γ : Gm} {d : Nat} {σ : AH} {Q : Oc → AH → Prop} {v0 : Nat} {v1 : Int32} {v2 : Int32} {v3 : Nat} (h : hs σ v0 = some (6, 17) ∧ CI Γ d MX8_contains [.ref v0, .int v1, .int v2] σ (fun r2 σ1 => ((r2 = 0 → ∃ n6 : Nat, hs σ1 v3 = some (23, n6) ∧ ∃ j7 : Nat, IX 0 n6 j7 ∧ ∀ σ9 : AH, σ9 = setJ σ1 v3 j7 0 → Q (.inl (some (.int 0))) σ9) ∧ (¬ r2 = 0 → ∃ n13 : Nat, hs σ1 v3 = some (23, n13) ∧ ∃ j14 : Nat, IX 0 n13 j14 ∧ ∀ σ16 : AH, σ16 = setJ σ1 v3 j14 1 → Q (.inl (some (.int 0))) σ16))) (fun E σ1 => ∃ w : Int32, CAT ML_contains 5 E w ∧ Q (.inl (some (.int w))) σ1)) : EV Γ ML_contains d 0 [some (.ref v0), some (.int v1), some (.int v2), some (.ref v3), none] [] σ Q := by
  refine EV.aload_n 1 rfl 3 rfl rfl dL_contains_0 ?_
  refine EV.iconst 2 rfl dL_contains_1 (v := 0) (by decide) ?_
  refine EV.aload_n 3 rfl 0 rfl rfl dL_contains_2 ?_
  refine EV.iload_n 4 rfl 1 rfl rfl dL_contains_3 ?_
  refine EV.iload_n 5 rfl 2 rfl rfl dL_contains_4 ?_
  obtain ⟨w3, h⟩ := h
  refine EV.cVC rfl rfl lk_L_105 rfl (vs := [.int v1, .int v2]) (st := [.int 0, .ref v3]) rfl rfl (Nat.le_of_ble_eq_true rfl) dL_contains_5 w3 h (fun v σ1 h => ?_)
  obtain ⟨r2, rfl, h⟩ := h
  show EV Γ ML_contains d 8 [some (.ref v0), some (.int v1), some (.int v2), some (.ref v3), none] [.int r2, .int 0, .ref v3] σ1 Q
  refine EV.if_eq 11 15 rfl (by decide) dL_contains_8 (fun c4 => ?_) (fun c4 => ?_)
  · have h := h.1 c4
    refine EV.lconst 16 rfl dL_contains_15 (v := 0) (by decide) ?_
    obtain ⟨n6, w5, h⟩ := h
    obtain ⟨j7, x8, h⟩ := h
    refine EV.last 17 rfl dL_contains_16 w5 x8 (EV.nm (fun σ9 e10 => ?_))
    have h := h σ9 e10
    have w11 := tr_hs (hs_setJ_of e10) w5
    refine EV.goto 28 (by decide) dL_contains_17 ?_
    refine EV.iconst 29 rfl dL_contains_28 (v := 0) (by decide) ?_
    exact EV.iret rfl dL_contains_29 h
  · have h := h.2 c4
    refine EV.lconst 12 rfl dL_contains_11 (v := 1) (by decide) ?_
    refine EV.goto 16 (by decide) dL_contains_12 ?_
    obtain ⟨n13, w12, h⟩ := h
    obtain ⟨j14, x15, h⟩ := h
    refine EV.last 17 rfl dL_contains_16 w12 x15 (EV.nm (fun σ16 e17 => ?_))
    have h := h σ16 e17
    have w18 := tr_hs (hs_setJ_of e17) w12
    refine EV.goto 28 (by decide) dL_contains_17 ?_
    refine EV.iconst 29 rfl dL_contains_28 (v := 0) (by decide) ?_
    exact EV.iret rfl dL_contains_29 h
theorem eL_contains {Γ : Gm} {d : Nat} {σ : AH} {Q : Oc → AH → Prop} {v0 : Nat} {v1 : Int32} {v2 : Int32} {v3 : Nat} (h : hs σ v0 = some (6, 17) ∧ CI Γ d MX8_contains [.ref v0, .int v1, .int v2] σ (fun r2 σ1 => ((r2 = 0 → ∃ n6 : Nat, hs σ1 v3 = some (23, n6) ∧ ∃ j7 : Nat, IX 0 n6 j7 ∧ ∀ σ9 : AH, σ9 = setJ σ1 v3 j7 0 → Q (.inl (some (.int 0))) σ9) ∧ (¬ r2 = 0 → ∃ n13 : Nat, hs σ1 v3 = some (23, n13) ∧ ∃ j14 : Nat, IX 0 n13 j14 ∧ ∀ σ16 : AH, σ16 = setJ σ1 v3 j14 1 → Q (.inl (some (.int 0))) σ16))) (fun E σ1 => ∃ w : Int32, CAT ML_contains 5 E w ∧ Q (.inl (some (.int w))) σ1)) : RUN Γ d ML_contains [.ref v0, .int v1, .int v2, .ref v3] σ Q :=
  EV.enterH [some (.ref v0), some (.int v1), some (.int v2), some (.ref v3), none] rfl (by decide +kernel) (Nat.le_of_ble_eq_true rfl) rfl (gL_contains_0 h)
theorem gL_areEqual_0 {Γ : Gm} {d : Nat} {σ : AH} {Q : Oc → AH → Prop} {v0 : Nat} {v1 : Int32} {v2 : Int32} {v3 : Nat} (h : hs σ v0 = some (6, 17) ∧ CI Γ d MX8_areEqual [.ref v0, .int v1, .int v2] σ (fun r2 σ1 => ((r2 = 0 → ∃ n6 : Nat, hs σ1 v3 = some (23, n6) ∧ ∃ j7 : Nat, IX 0 n6 j7 ∧ ∀ σ9 : AH, σ9 = setJ σ1 v3 j7 0 → Q (.inl (some (.int 0))) σ9) ∧ (¬ r2 = 0 → ∃ n13 : Nat, hs σ1 v3 = some (23, n13) ∧ ∃ j14 : Nat, IX 0 n13 j14 ∧ ∀ σ16 : AH, σ16 = setJ σ1 v3 j14 1 → Q (.inl (some (.int 0))) σ16))) (fun E σ1 => ∃ w : Int32, CAT ML_areEqual 5 E w ∧ Q (.inl (some (.int w))) σ1)) : EV Γ ML_areEqual d 0 [some (.ref v0), some (.int v1), some (.int v2), some (.ref v3), none] [] σ Q := by
  refine EV.aload_n 1 rfl 3 rfl rfl dL_areEqual_0 ?_
  refine EV.iconst 2 rfl dL_areEqual_1 (v := 0) (by decide) ?_
  refine EV.aload_n 3 rfl 0 rfl rfl dL_areEqual_2 ?_
  refine EV.iload_n 4 rfl 1 rfl rfl dL_areEqual_3 ?_
  refine EV.iload_n 5 rfl 2 rfl rfl dL_areEqual_4 ?_
  obtain ⟨w3, h⟩ := h
  refine EV.cVC rfl rfl lk_L_109 rfl (vs := [.int v1, .int v2]) (st := [.int 0, .ref v3]) rfl rfl (Nat.le_of_ble_eq_true rfl) dL_areEqual_5 w3 h (fun v σ1 h => ?_)
  obtain ⟨r2, rfl, h⟩ := h
  show EV Γ ML_areEqual d 8 [some (.ref v0), some (.int v1), some (.int v2), some (.ref v3), none] [.int r2, .int 0, .ref v3] σ1 Q
  refine EV.if_eq 11 15 rfl (by decide) dL_areEqual_8 (fun c4 => ?_) (fun c4 => ?_)
  · have h := h.1 c4
    refine EV.lconst 16 rfl dL_areEqual_15 (v := 0) (by decide) ?_
    obtain ⟨n6, w5, h⟩ := h
    obtain ⟨j7, x8, h⟩ := h
    refine EV.last 17 rfl dL_areEqual_16 w5 x8 (EV.nm (fun σ9 e10 => ?_))
    have h := h σ9 e10
    have w11 := tr_hs (hs_setJ_of e10) w5
    refine EV.goto 28 (by decide) dL_areEqual_17 ?_
    refine EV.iconst 29 rfl dL_areEqual_28 (v := 0) (by decide) ?_
    exact EV.iret rfl dL_areEqual_29 h
  · have h := h.2 c4
    refine EV.lconst 12 rfl dL_areEqual_11 (v := 1) (by decide) ?_
    refine EV.goto 16 (by decide) dL_areEqual_12 ?_
    obtain ⟨n13, w12, h⟩ := h
    obtain ⟨j14, x15, h⟩ := h
    refine EV.last 17 rfl dL_areEqual_16 w12 x15 (EV.nm (fun σ16 e17 => ?_))
    have h := h σ16 e17
    have w18 := tr_hs (hs_setJ_of e17) w12
    refine EV.goto 28 (by decide) dL_areEqual_17 ?_
    refine EV.iconst 29 rfl dL_areEqual_28 (v := 0) (by decide) ?_
    exact EV.iret rfl dL_areEqual_29 h
theorem eL_areEqual {Γ : Gm} {d : Nat} {σ : AH} {Q : Oc → AH → Prop} {v0 : Nat} {v1 : Int32} {v2 : Int32} {v3 : Nat} (h : hs σ v0 = some (6, 17) ∧ CI Γ d MX8_areEqual [.ref v0, .int v1, .int v2] σ (fun r2 σ1 => ((r2 = 0 → ∃ n6 : Nat, hs σ1 v3 = some (23, n6) ∧ ∃ j7 : Nat, IX 0 n6 j7 ∧ ∀ σ9 : AH, σ9 = setJ σ1 v3 j7 0 → Q (.inl (some (.int 0))) σ9) ∧ (¬ r2 = 0 → ∃ n13 : Nat, hs σ1 v3 = some (23, n13) ∧ ∃ j14 : Nat, IX 0 n13 j14 ∧ ∀ σ16 : AH, σ16 = setJ σ1 v3 j14 1 → Q (.inl (some (.int 0))) σ16))) (fun E σ1 => ∃ w : Int32, CAT ML_areEqual 5 E w ∧ Q (.inl (some (.int w))) σ1)) : RUN Γ d ML_areEqual [.ref v0, .int v1, .int v2, .ref v3] σ Q :=
  EV.enterH [some (.ref v0), some (.int v1), some (.int v2), some (.ref v3), none] rfl (by decide +kernel) (Nat.le_of_ble_eq_true rfl) rfl (gL_areEqual_0 h)
theorem gL_isPartOf_0 {Γ : Gm} {d : Nat} {σ : AH} {Q : Oc → AH → Prop} {v0 : Nat} {v1 : Int32} {v2 : Int32} {v3 : Nat} (h : hs σ v0 = some (6, 17) ∧ CI Γ d MX8_isPartOf [.ref v0, .int v1, .int v2] σ (fun r2 σ1 => ((r2 = 0 → ∃ n6 : Nat, hs σ1 v3 = some (23, n6) ∧ ∃ j7 : Nat, IX 0 n6 j7 ∧ ∀ σ9 : AH, σ9 = setJ σ1 v3 j7 0 → Q (.inl (some (.int 0))) σ9) ∧ (¬ r2 = 0 → ∃ n13 : Nat, hs σ1 v3 = some (23, n13) ∧ ∃ j14 : Nat, IX 0 n13 j14 ∧ ∀ σ16 : AH, σ16 = setJ σ1 v3 j14 1 → Q (.inl (some (.int 0))) σ16))) (fun E σ1 => ∃ w : Int32, CAT ML_isPartOf 5 E w ∧ Q (.inl (some (.int w))) σ1)) : EV Γ ML_isPartOf d 0 [some (.ref v0), some (.int v1), some (.int v2), some (.ref v3), none] [] σ Q := by
  refine EV.aload_n 1 rfl 3 rfl rfl dL_isPartOf_0 ?_
  refine EV.iconst 2 rfl dL_isPartOf_1 (v := 0) (by decide) ?_
  refine EV.aload_n 3 rfl 0 rfl rfl dL_isPartOf_2 ?_
  refine EV.iload_n 4 rfl 1 rfl rfl dL_isPartOf_3 ?_
  refine EV.iload_n 5 rfl 2 rfl rfl dL_isPartOf_4 ?_
  obtain ⟨w3, h⟩ := h
  refine EV.cVC rfl rfl lk_L_112 rfl (vs := [.int v1, .int v2]) (st := [.int 0, .ref v3]) rfl rfl (Nat.le_of_ble_eq_true rfl) dL_isPartOf_5 w3 h (fun v σ1 h => ?_)
  obtain ⟨r2, rfl, h⟩ := h
  show EV Γ ML_isPartOf d 8 [some (.ref v0), some (.int v1), some (.int v2), some (.ref v3), none] [.int r2, .int 0, .ref v3] σ1 Q
  refine EV.if_eq 11 15 rfl (by decide) dL_isPartOf_8 (fun c4 => ?_) (fun c4 => ?_)
  · have h := h.1 c4
    refine EV.lconst 16 rfl dL_isPartOf_15 (v := 0) (by decide) ?_
    obtain ⟨n6, w5, h⟩ := h
    obtain ⟨j7, x8, h⟩ := h
    refine EV.last 17 rfl dL_isPartOf_16 w5 x8 (EV.nm (fun σ9 e10 => ?_))
    have h := h σ9 e10
    have w11 := tr_hs (hs_setJ_of e10) w5
    refine EV.goto 28 (by decide) dL_isPartOf_17 ?_
    refine EV.iconst 29 rfl dL_isPartOf_28 (v := 0) (by decide) ?_
    exact EV.iret rfl dL_isPartOf_29 h
  · have h := h.2 c4
    refine EV.lconst 12 rfl dL_isPartOf_11 (v := 1) (by decide) ?_
    refine EV.goto 16 (by decide) dL_isPartOf_12 ?_
    obtain ⟨n13, w12, h⟩ := h
    obtain ⟨j14, x15, h⟩ := h
    refine EV.last 17 rfl dL_isPartOf_16 w12 x15 (EV.nm (fun σ16 e17 => ?_))
    have h := h σ16 e17
    have w18 := tr_hs (hs_setJ_of e17) w12
    refine EV.goto 28 (by decide) dL_isPartOf_17 ?_
    refine EV.iconst 29 rfl dL_isPartOf_28 (v := 0) (by decide) ?_
    exact EV.iret rfl dL_isPartOf_29 h
theorem eL_isPartOf {Γ : Gm} {d : Nat} {σ : AH} {Q : Oc → AH → Prop} {v0 : Nat} {v1 : Int32} {v2 : Int32} {v3 : Nat} (h : hs σ v0 = some (6, 17) ∧ CI Γ d MX8_isPartOf [.ref v0, .int v1, .int v2] σ (fun r2 σ1 => ((r2 = 0 → ∃ n6 : Nat, hs σ1 v3 = some (23, n6) ∧ ∃ j7 : Nat, IX 0 n6 j7 ∧ ∀ σ9 : AH, σ9 = setJ σ1 v3 j7 0 → Q (.inl (some (.int 0))) σ9) ∧ (¬ r2 = 0 → ∃ n13 : Nat, hs σ1 v3 = some (23, n13) ∧ ∃ j14 : Nat, IX 0 n13 j14 ∧ ∀ σ16 : AH, σ16 = setJ σ1 v3 j14 1 → Q (.inl (some (.int 0))) σ16))) (fun E σ1 => ∃ w : Int32, CAT ML_isPartOf 5 E w ∧ Q (.inl (some (.int w))) σ1)) : RUN Γ d ML_isPartOf [.ref v0, .int v1, .int v2, .ref v3] σ Q :=
  EV.enterH [some (.ref v0), some (.int v1), some (.int v2), some (.ref v3), none] rfl (by decide +kernel) (Nat.le_of_ble_eq_true rfl) rfl (gL_isPartOf_0 h)
theorem gL_setAt_0 {Γ : Gm} {d : Nat} {σ : AH} {Q : Oc → AH → Prop} {v0 : Nat} {v1 : Int32} {v2 : Int32} {v3 : Nat} (h : hs σ v0 = some (6, 17) ∧ CI Γ d MX8_setAt [.ref v0, .int v1, .int v2] σ (fun r2 σ1 => ∃ n5 : Nat, hs σ1 v3 = some (23, n5) ∧ ∃ j6 : Nat, IX 0 n5 j6 ∧ ∀ σ8 : AH, σ8 = setJ σ1 v3 j6 (Int32.toInt64 r2) → Q (.inl (some (.int 0))) σ8) (fun E σ1 => ∃ w : Int32, CAT ML_setAt 5 E w ∧ Q (.inl (some (.int w))) σ1)) : EV Γ ML_setAt d 0 [some (.ref v0), some (.int v1), some (.int v2), some (.ref v3), none] [] σ Q := by
  refine EV.aload_n 1 rfl 3 rfl rfl dL_setAt_0 ?_
  refine EV.iconst 2 rfl dL_setAt_1 (v := 0) (by decide) ?_
  refine EV.aload_n 3 rfl 0 rfl rfl dL_setAt_2 ?_
  refine EV.iload_n 4 rfl 1 rfl rfl dL_setAt_3 ?_
  refine EV.iload_n 5 rfl 2 rfl rfl dL_setAt_4 ?_
  obtain ⟨w3, h⟩ := h
  refine EV.cVC rfl rfl lk_L_115 rfl (vs := [.int v1, .int v2]) (st := [.int 0, .ref v3]) rfl rfl (Nat.le_of_ble_eq_true rfl) dL_setAt_5 w3 h (fun v σ1 h => ?_)
  obtain ⟨r2, rfl, h⟩ := h
  show EV Γ ML_setAt d 8 [some (.ref v0), some (.int v1), some (.int v2), some (.ref v3), none] [.int r2, .int 0, .ref v3] σ1 Q
  refine EV.i2l 9 rfl dL_setAt_8 ?_
  obtain ⟨n5, w4, h⟩ := h
  obtain ⟨j6, x7, h⟩ := h
  refine EV.last 10 rfl dL_setAt_9 w4 x7 (EV.nm (fun σ8 e9 => ?_))
  have h := h σ8 e9
  have w10 := tr_hs (hs_setJ_of e9) w4
  refine EV.goto 21 (by decide) dL_setAt_10 ?_
  refine EV.iconst 22 rfl dL_setAt_21 (v := 0) (by decide) ?_
  exact EV.iret rfl dL_setAt_22 h
theorem eL_setAt {Γ : Gm} {d : Nat} {σ : AH} {Q : Oc → AH → Prop} {v0 : Nat} {v1 : Int32} {v2 : Int32} {v3 : Nat} (h : hs σ v0 = some (6, 17) ∧ CI Γ d MX8_setAt [.ref v0, .int v1, .int v2] σ (fun r2 σ1 => ∃ n5 : Nat, hs σ1 v3 = some (23, n5) ∧ ∃ j6 : Nat, IX 0 n5 j6 ∧ ∀ σ8 : AH, σ8 = setJ σ1 v3 j6 (Int32.toInt64 r2) → Q (.inl (some (.int 0))) σ8) (fun E σ1 => ∃ w : Int32, CAT ML_setAt 5 E w ∧ Q (.inl (some (.int w))) σ1)) : RUN Γ d ML_setAt [.ref v0, .int v1, .int v2, .ref v3] σ Q :=
  EV.enterH [some (.ref v0), some (.int v1), some (.int v2), some (.ref v3), none] rfl (by decide +kernel) (Nat.le_of_ble_eq_true rfl) rfl (gL_setAt_0 h)
theorem gL_indexOf_0 {Γ : Gm} {d : Nat} {σ : AH} {Q : Oc → AH → Prop} {v0 : Nat} {v1 : Int32} {v2 : Int32} {v3 : Nat} (h : hs σ v0 = some (6, 17) ∧ CI Γ d MX8_indexOf [.ref v0, .int v1, .int v2] σ (fun r2 σ1 => ∃ n5 : Nat, hs σ1 v3 = some (23, n5) ∧ ∃ j6 : Nat, IX 0 n5 j6 ∧ ∀ σ8 : AH, σ8 = setJ σ1 v3 j6 (Int32.toInt64 r2) → Q (.inl (some (.int 0))) σ8) (fun E σ1 => ∃ w : Int32, CAT ML_indexOf 5 E w ∧ Q (.inl (some (.int w))) σ1)) : EV Γ ML_indexOf d 0 [some (.ref v0), some (.int v1), some (.int v2), some (.ref v3), none] [] σ Q := by
  refine EV.aload_n 1 rfl 3 rfl rfl dL_indexOf_0 ?_
  refine EV.iconst 2 rfl dL_indexOf_1 (v := 0) (by decide) ?_
  refine EV.aload_n 3 rfl 0 rfl rfl dL_indexOf_2 ?_
  refine EV.iload_n 4 rfl 1 rfl rfl dL_indexOf_3 ?_
  refine EV.iload_n 5 rfl 2 rfl rfl dL_indexOf_4 ?_
  obtain ⟨w3, h⟩ := h
  refine EV.cVC rfl rfl lk_L_118 rfl (vs := [.int v1, .int v2]) (st := [.int 0, .ref v3]) rfl rfl (Nat.le_of_ble_eq_true rfl) dL_indexOf_5 w3 h (fun v σ1 h => ?_)
  obtain ⟨r2, rfl, h⟩ := h
  show EV Γ ML_indexOf d 8 [some (.ref v0), some (.int v1), some (.int v2), some (.ref v3), none] [.int r2, .int 0, .ref v3] σ1 Q
  refine EV.i2l 9 rfl dL_indexOf_8 ?_
  obtain ⟨n5, w4, h⟩ := h
  obtain ⟨j6, x7, h⟩ := h
  refine EV.last 10 rfl dL_indexOf_9 w4 x7 (EV.nm (fun σ8 e9 => ?_))
  have h := h σ8 e9
  have w10 := tr_hs (hs_setJ_of e9) w4
  refine EV.goto 21 (by decide) dL_indexOf_10 ?_
  refine EV.iconst 22 rfl dL_indexOf_21 (v := 0) (by decide) ?_
  exact EV.iret rfl dL_indexOf_22 h
theorem eL_indexOf {Γ : Gm} {d : Nat} {σ : AH} {Q : Oc → AH → Prop} {v0 : Nat} {v1 : Int32} {v2 : Int32} {v3 : Nat} (h : hs σ v0 = some (6, 17) ∧ CI Γ d MX8_indexOf [.ref v0, .int v1, .int v2] σ (fun r2 σ1 => ∃ n5 : Nat, hs σ1 v3 = some (23, n5) ∧ ∃ j6 : Nat, IX 0 n5 j6 ∧ ∀ σ8 : AH, σ8 = setJ σ1 v3 j6 (Int32.toInt64 r2) → Q (.inl (some (.int 0))) σ8) (fun E σ1 => ∃ w : Int32, CAT ML_indexOf 5 E w ∧ Q (.inl (some (.int w))) σ1)) : RUN Γ d ML_indexOf [.ref v0, .int v1, .int v2, .ref v3] σ Q :=
  EV.enterH [some (.ref v0), some (.int v1), some (.int v2), some (.ref v3), none] rfl (by decide +kernel) (Nat.le_of_ble_eq_true rfl) rfl (gL_indexOf_0 h)
theorem gL_setCost_0 {Γ : Gm} {d : Nat} {σ : AH} {Q : Oc → AH → Prop} {v0 : Nat} {v1 : Int32} {v2 : Int32} {v3 : Nat} (h : hs σ v0 = some (6, 17) ∧ CI Γ d MX8_setCost [.ref v0, .int v1, .int v2] σ (fun r2 σ1 => ∃ n5 : Nat, hs σ1 v3 = some (23, n5) ∧ ∃ j6 : Nat, IX 0 n5 j6 ∧ ∀ σ8 : AH, σ8 = setJ σ1 v3 j6 (Int32.toInt64 r2) → Q (.inl (some (.int 0))) σ8) (fun E σ1 => ∃ w : Int32, CAT ML_setCost 5 E w ∧ Q (.inl (some (.int w))) σ1)) : EV Γ ML_setCost d 0 [some (.ref v0), some (.int v1), some (.int v2), some (.ref v3), none] [] σ Q := by
  refine EV.aload_n 1 rfl 3 rfl rfl dL_setCost_0 ?_
  refine EV.iconst 2 rfl dL_setCost_1 (v := 0) (by decide) ?_
  refine EV.aload_n 3 rfl 0 rfl rfl dL_setCost_2 ?_
  refine EV.iload_n 4 rfl 1 rfl rfl dL_setCost_3 ?_
  refine EV.iload_n 5 rfl 2 rfl rfl dL_setCost_4 ?_
  obtain ⟨w3, h⟩ := h
  refine EV.cVC rfl rfl lk_L_121 rfl (vs := [.int v1, .int v2]) (st := [.int 0, .ref v3]) rfl rfl (Nat.le_of_ble_eq_true rfl) dL_setCost_5 w3 h (fun v σ1 h => ?_)
  obtain ⟨r2, rfl, h⟩ := h
  show EV Γ ML_setCost d 8 [some (.ref v0), some (.int v1), some (.int v2), some (.ref v3), none] [.int r2, .int 0, .ref v3] σ1 Q
  refine EV.i2l 9 rfl dL_setCost_8 ?_
  obtain ⟨n5, w4, h⟩ := h
  obtain ⟨j6, x7, h⟩ := h
  refine EV.last 10 rfl dL_setCost_9 w4 x7 (EV.nm (fun σ8 e9 => ?_))
  have h := h σ8 e9
  have w10 := tr_hs (hs_setJ_of e9) w4
  refine EV.goto 21 (by decide) dL_setCost_10 ?_
  refine EV.iconst 22 rfl dL_setCost_21 (v := 0) (by decide) ?_
  exact EV.iret rfl dL_setCost_22 h
theorem eL_setCost {Γ : Gm} {d : Nat} {σ : AH} {Q : Oc → AH → Prop} {v0 : Nat} {v1 : Int32} {v2 : Int32} {v3 : Nat} (h : hs σ v0 = some (6, 17) ∧ CI Γ d MX8_setCost [.ref v0, .int v1, .int v2] σ (fun r2 σ1 => ∃ n5 : Nat, hs σ1 v3 = some (23, n5) ∧ ∃ j6 : Nat, IX 0 n5 j6 ∧ ∀ σ8 : AH, σ8 = setJ σ1 v3 j6 (Int32.toInt64 r2) → Q (.inl (some (.int 0))) σ8) (fun E σ1 => ∃ w : Int32, CAT ML_setCost 5 E w ∧ Q (.inl (some (.int w))) σ1)) : RUN Γ d ML_setCost [.ref v0, .int v1, .int v2, .ref v3] σ Q :=
  EV.enterH [some (.ref v0), some (.int v1), some (.int v2), some (.ref v3), none] rfl (by decide +kernel) (Nat.le_of_ble_eq_true rfl) rfl (gL_setCost_0 h)
theorem gL_leastCost_0 {Γ : Gm} {d : Nat} {σ : AH} {Q : Oc → AH → Prop} {v0 : Nat} {v1 : Int32} {v2 : Nat} (h : hs σ v0 = some (6, 17) ∧ CI Γ d MX8_leastCost [.ref v0, .int v1] σ (fun r2 σ1 => ∃ n5 : Nat, hs σ1 v2 = some (23, n5) ∧ ∃ j6 : Nat, IX 0 n5 j6 ∧ ∀ σ8 : AH, σ8 = setJ σ1 v2 j6 (Int32.toInt64 r2) → Q (.inl (some (.int 0))) σ8) (fun E σ1 => ∃ w : Int32, CAT ML_leastCost 4 E w ∧ Q (.inl (some (.int w))) σ1)) : EV Γ ML_leastCost d 0 [some (.ref v0), some (.int v1), some (.ref v2), none] [] σ Q := by
  refine EV.aload_n 1 rfl 2 rfl rfl dL_leastCost_0 ?_
  refine EV.iconst 2 rfl dL_leastCost_1 (v := 0) (by decide) ?_
  refine EV.aload_n 3 rfl 0 rfl rfl dL_leastCost_2 ?_
  refine EV.iload_n 4 rfl 1 rfl rfl dL_leastCost_3 ?_
  obtain ⟨w3, h⟩ := h
  refine EV.cVC rfl rfl lk_L_124 rfl (vs := [.int v1]) (st := [.int 0, .ref v2]) rfl rfl (Nat.le_of_ble_eq_true rfl) dL_leastCost_4 w3 h (fun v σ1 h => ?_)
  obtain ⟨r2, rfl, h⟩ := h
  show EV Γ ML_leastCost d 7 [some (.ref v0), some (.int v1), some (.ref v2), none] [.int r2, .int 0, .ref v2] σ1 Q
  refine EV.i2l 8 rfl dL_leastCost_7 ?_
  obtain ⟨n5, w4, h⟩ := h
  obtain ⟨j6, x7, h⟩ := h
  refine EV.last 9 rfl dL_leastCost_8 w4 x7 (EV.nm (fun σ8 e9 => ?_))
  have h := h σ8 e9
  have w10 := tr_hs (hs_setJ_of e9) w4
  refine EV.goto 18 (by decide) dL_leastCost_9 ?_
  refine EV.iconst 19 rfl dL_leastCost_18 (v := 0) (by decide) ?_
  exact EV.iret rfl dL_leastCost_19 h
theorem eL_leastCost {Γ : Gm} {d : Nat} {σ : AH} {Q : Oc → AH → Prop} {v0 : Nat} {v1 : Int32} {v2 : Nat} (h : hs σ v0 = some (6, 17) ∧ CI Γ d MX8_leastCost [.ref v0, .int v1] σ (fun r2 σ1 => ∃ n5 : Nat, hs σ1 v2 = some (23, n5) ∧ ∃ j6 : Nat, IX 0 n5 j6 ∧ ∀ σ8 : AH, σ8 = setJ σ1 v2 j6 (Int32.toInt64 r2) → Q (.inl (some (.int 0))) σ8) (fun E σ1 => ∃ w : Int32, CAT ML_leastCost 4 E w ∧ Q (.inl (some (.int w))) σ1)) : RUN Γ d ML_leastCost [.ref v0, .int v1, .ref v2] σ Q :=
  EV.enterH [some (.ref v0), some (.int v1), some (.ref v2), none] rfl (by decide +kernel) (Nat.le_of_ble_eq_true rfl) rfl (gL_leastCost_0 h)
theorem gL_meanCost_0 {Γ : Gm} {d : Nat} {σ : AH} {Q : Oc → AH → Prop} {v0 : Nat} {v1 : Int32} {v2 : Nat} (h : hs σ v0 = some (6, 17) ∧ CD Γ d MX8_meanCost [.ref v0, .int v1] σ (fun r2 σ1 => ∃ n5 : Nat, hs σ1 v2 = some (24, n5) ∧ ∃ j6 : Nat, IX 0 n5 j6 ∧ ∀ σ8 : AH, σ8 = setD σ1 v2 j6 r2 → Q (.inl (some (.int 0))) σ8) (fun E σ1 => ∃ w : Int32, CAT ML_meanCost 4 E w ∧ Q (.inl (some (.int w))) σ1)) : EV Γ ML_meanCost d 0 [some (.ref v0), some (.int v1), some (.ref v2), none] [] σ Q := by
  refine EV.aload_n 1 rfl 2 rfl rfl dL_meanCost_0 ?_
  refine EV.iconst 2 rfl dL_meanCost_1 (v := 0) (by decide) ?_
  refine EV.aload_n 3 rfl 0 rfl rfl dL_meanCost_2 ?_
  refine EV.iload_n 4 rfl 1 rfl rfl dL_meanCost_3 ?_
  obtain ⟨w3, h⟩ := h
  refine EV.cVC rfl rfl lk_L_127 rfl (vs := [.int v1]) (st := [.int 0, .ref v2]) rfl rfl (Nat.le_of_ble_eq_true rfl) dL_meanCost_4 w3 h (fun v σ1 h => ?_)
  obtain ⟨r2, rfl, h⟩ := h
  show EV Γ ML_meanCost d 7 [some (.ref v0), some (.int v1), some (.ref v2), none] [.double r2, .int 0, .ref v2] σ1 Q
  obtain ⟨n5, w4, h⟩ := h
  obtain ⟨j6, x7, h⟩ := h
  refine EV.dast 8 rfl dL_meanCost_7 w4 x7 (EV.nm (fun σ8 e9 => ?_))
  have h := h σ8 e9
  have w10 := tr_hs (hs_setD_of e9) w4
  refine EV.goto 17 (by decide) dL_meanCost_8 ?_
  refine EV.iconst 18 rfl dL_meanCost_17 (v := 0) (by decide) ?_
  exact EV.iret rfl dL_meanCost_18 h
theorem eL_meanCost {Γ : Gm} {d : Nat} {σ : AH} {Q : Oc → AH → Prop} {v0 : Nat} {v1 : Int32} {v2 : Nat} (h : hs σ v0 = some (6, 17) ∧ CD Γ d MX8_meanCost [.ref v0, .int v1] σ (fun r2 σ1 => ∃ n5 : Nat, hs σ1 v2 = some (24, n5) ∧ ∃ j6 : Nat, IX 0 n5 j6 ∧ ∀ σ8 : AH, σ8 = setD σ1 v2 j6 r2 → Q (.inl (some (.int 0))) σ8) (fun E σ1 => ∃ w : Int32, CAT ML_meanCost 4 E w ∧ Q (.inl (some (.int w))) σ1)) : RUN Γ d ML_meanCost [.ref v0, .int v1, .ref v2] σ Q :=
  EV.enterH [some (.ref v0), some (.int v1), some (.ref v2), none] rfl (by decide +kernel) (Nat.le_of_ble_eq_true rfl) rfl (gL_meanCost_0 h)
theorem gL_enumerate_0 {Γ : Gm} {d : Nat} {σ : AH} {Q : Oc → AH → Prop} {v0 : Nat} {v1 : Int32} {v2 : Int32} {v3 : Int32} {v4 : Nat} (h : hs σ v0 = some (6, 17) ∧ CI Γ d MX8_enumerate [.ref v0, .int v1, .int v2, .int v3] σ (fun r2 σ1 => ∃ n5 : Nat, hs σ1 v4 = some (23, n5) ∧ ∃ j6 : Nat, IX 0 n5 j6 ∧ ∀ σ8 : AH, σ8 = setJ σ1 v4 j6 (Int32.toInt64 r2) → Q (.inl (some (.int 0))) σ8) (fun E σ1 => ∃ w : Int32, CAT ML_enumerate 7 E w ∧ Q (.inl (some (.int w))) σ1)) : EV Γ ML_enumerate d 0 [some (.ref v0), some (.int v1), some (.int v2), some (.int v3), some (.ref v4), none] [] σ Q := by
  refine EV.aload 2 rfl rfl dL_enumerate_0 ?_
  refine EV.iconst 3 rfl dL_enumerate_2 (v := 0) (by decide) ?_
  refine EV.aload_n 4 rfl 0 rfl rfl dL_enumerate_3 ?_
  refine EV.iload_n 5 rfl 1 rfl rfl dL_enumerate_4 ?_
  refine EV.iload_n 6 rfl 2 rfl rfl dL_enumerate_5 ?_
  refine EV.iload_n 7 rfl 3 rfl rfl dL_enumerate_6 ?_
  obtain ⟨w3, h⟩ := h
  refine EV.cVC rfl rfl lk_L_131 rfl (vs := [.int v1, .int v2, .int v3]) (st := [.int 0, .ref v4]) rfl rfl (Nat.le_of_ble_eq_true rfl) dL_enumerate_7 w3 h (fun v σ1 h => ?_)
  obtain ⟨r2, rfl, h⟩ := h
  show EV Γ ML_enumerate d 10 [some (.ref v0), some (.int v1), some (.int v2), some (.int v3), some (.ref v4), none] [.int r2, .int 0, .ref v4] σ1 Q
  refine EV.i2l 11 rfl dL_enumerate_10 ?_
  obtain ⟨n5, w4, h⟩ := h
  obtain ⟨j6, x7, h⟩ := h
  refine EV.last 12 rfl dL_enumerate_11 w4 x7 (EV.nm (fun σ8 e9 => ?_))
  have h := h σ8 e9
  have w10 := tr_hs (hs_setJ_of e9) w4
  refine EV.goto 27 (by decide) dL_enumerate_12 ?_
  refine EV.iconst 28 rfl dL_enumerate_27 (v := 0) (by decide) ?_
  exact EV.iret rfl dL_enumerate_28 h
theorem eL_enumerate {Γ : Gm} {d : Nat} {σ : AH} {Q : Oc → AH → Prop} {v0 : Nat} {v1 : Int32} {v2 : Int32} {v3 : Int32} {v4 : Nat} (h : hs σ v0 = some (6, 17) ∧ CI Γ d MX8_enumerate [.ref v0, .int v1, .int v2, .int v3] σ (fun r2 σ1 => ∃ n5 : Nat, hs σ1 v4 = some (23, n5) ∧ ∃ j6 : Nat, IX 0 n5 j6 ∧ ∀ σ8 : AH, σ8 = setJ σ1 v4 j6 (Int32.toInt64 r2) → Q (.inl (some (.int 0))) σ8) (fun E σ1 => ∃ w : Int32, CAT ML_enumerate 7 E w ∧ Q (.inl (some (.int w))) σ1)) : RUN Γ d ML_enumerate [.ref v0, .int v1, .int v2, .int v3, .ref v4] σ Q :=
  EV.enterH [some (.ref v0), some (.int v1), some (.int v2), some (.int v3), some (.ref v4), none] rfl (by decide +kernel) (Nat.le_of_ble_eq_true rfl) rfl (gL_enumerate_0 h)
theorem gL_enumerated_0 {Γ : Gm} {d : Nat} {σ : AH} {Q : Oc → AH → Prop} {v0 : Nat} {v1 : Int32} {v2 : Nat} (h : hs σ v0 = some (6, 17) ∧ CI Γ d MX8_enumerated [.ref v0, .int v1] σ (fun r2 σ1 => ∃ n5 : Nat, hs σ1 v2 = some (23, n5) ∧ ∃ j6 : Nat, IX 0 n5 j6 ∧ ∀ σ8 : AH, σ8 = setJ σ1 v2 j6 (Int32.toInt64 r2) → Q (.inl (some (.int 0))) σ8) (fun E σ1 => ∃ w : Int32, CAT ML_enumerated 4 E w ∧ Q (.inl (some (.int w))) σ1)) : EV Γ ML_enumerated d 0 [some (.ref v0), some (.int v1), some (.ref v2), none] [] σ Q := by
  refine EV.aload_n 1 rfl 2 rfl rfl dL_enumerated_0 ?_
  refine EV.iconst 2 rfl dL_enumerated_1 (v := 0) (by decide) ?_
  refine EV.aload_n 3 rfl 0 rfl rfl dL_enumerated_2 ?_
  refine EV.iload_n 4 rfl 1 rfl rfl dL_enumerated_3 ?_
  obtain ⟨w3, h⟩ := h
  refine EV.cVC rfl rfl lk_L_134 rfl (vs := [.int v1]) (st := [.int 0, .ref v2]) rfl rfl (Nat.le_of_ble_eq_true rfl) dL_enumerated_4 w3 h (fun v σ1 h => ?_)
  obtain ⟨r2, rfl, h⟩ := h
  show EV Γ ML_enumerated d 7 [some (.ref v0), some (.int v1), some (.ref v2), none] [.int r2, .int 0, .ref v2] σ1 Q
  refine EV.i2l 8 rfl dL_enumerated_7 ?_
  obtain ⟨n5, w4, h⟩ := h
  obtain ⟨j6, x7, h⟩ := h
  refine EV.last 9 rfl dL_enumerated_8 w4 x7 (EV.nm (fun σ8 e9 => ?_))
  have h := h σ8 e9
  have w10 := tr_hs (hs_setJ_of e9) w4
  refine EV.goto 15 (by decide) dL_enumerated_9 ?_
  refine EV.iconst 16 rfl dL_enumerated_15 (v := 0) (by decide) ?_
  exact EV.iret rfl dL_enumerated_16 h
theorem eL_enumerated {Γ : Gm} {d : Nat} {σ : AH} {Q : Oc → AH → Prop} {v0 : Nat} {v1 : Int32} {v2 : Nat} (h : hs σ v0 = some (6, 17) ∧ CI Γ d MX8_enumerated [.ref v0, .int v1] σ (fun r2 σ1 => ∃ n5 : Nat, hs σ1 v2 = some (23, n5) ∧ ∃ j6 : Nat, IX 0 n5 j6 ∧ ∀ σ8 : AH, σ8 = setJ σ1 v2 j6 (Int32.toInt64 r2) → Q (.inl (some (.int 0))) σ8) (fun E σ1 => ∃ w : Int32, CAT ML_enumerated 4 E w ∧ Q (.inl (some (.int w))) σ1)) : RUN Γ d ML_enumerated [.ref v0, .int v1, .ref v2] σ Q :=
  EV.enterH [some (.ref v0), some (.int v1), some (.ref v2), none] rfl (by decide +kernel) (Nat.le_of_ble_eq_true rfl) rfl (gL_enumerated_0 h)
