theorem gJ7_copyOf_59c91_0 {Γ : Gm} {d : Nat} {σ : AH} {Q : Oc → AH → Prop} {v0 : Nat} {v1 : Int32} (h : ∃ n2 : Nat, hs σ v0 = some (22, n2) ∧ ((v1 ≠ (nI n2) → ∃ n4 : Nat, v1.toInt = (n4 : Int) ∧ n4 ≤ 60000000 ∧ ∀ (q7 : Nat) (σ8 : AH), q7 = lo Γ + hc σ → σ8 = mk σ q7 22 n4 → ∃ n11 : Nat, hs σ8 v0 = some (22, n11) ∧ 1 ≤ d ∧ 2 ≤ d ∧ ∃ p14 p15 p16 : Nat, Int32.toInt 0 = (p14 : Int) ∧ Int32.toInt 0 = (p15 : Int) ∧ Int32.toInt (if v1 < (nI n11) then v1 else (nI n11)) = (p16 : Int) ∧ p14 + p16 ≤ n11 ∧ p15 + p16 ≤ n4 ∧ ∀ σ22 : AH, σ22 = rowI σ8 q7 (va_cpy (gi σ8 v0) (gi σ8 q7) p14 p15 p16) → Q (.inl (some (.ref q7))) σ22) ∧ (v1 = (nI n2) → 1 ≤ d ∧ ∀ (q27 : Nat) (σ28 : AH), q27 = lo Γ + hc σ → σ28 = rowI (mk σ q27 22 n2) q27 (gi σ v0) → Q (.inl (some (.ref q27))) σ28))) : EV Γ MJ7_copyOf_59c91 d 0 [some (.ref v0), some (.int v1), none] [] σ Q := by
  refine EV.iload_n 1 rfl 1 rfl rfl dJ7_copyOf_59c91_0 ?_
  refine EV.aload_n 2 rfl 0 rfl rfl dJ7_copyOf_59c91_1 ?_
  obtain ⟨n2, w1, h⟩ := h
  refine EV.alenI 3 rfl dJ7_copyOf_59c91_2 w1 ?_
  refine EV.icmp_ne 6 14 rfl (by decide) dJ7_copyOf_59c91_3 (fun c3 => ?_) (fun c3 => ?_)
  · have h := h.1 c3
    refine EV.iload_n 15 rfl 1 rfl rfl dJ7_copyOf_59c91_14 ?_
    obtain ⟨n4, z5, z6, h⟩ := h
    refine EV.newI 17 rfl (n := n4) ac_int dJ7_copyOf_59c91_15 z5 z6 (EV.nq (fun q7 σ8 eq7 eσ8 => ?_))
    have h := h q7 σ8 eq7 eσ8
    have w9 : hs σ8 q7 = some (22, n4) := by rw [eσ8]; exact up_same _ _ _
    refine EV.astore_n 18 rfl 2 [some (.ref v0), some (.int v1), some (.ref q7)] rfl (by decide) rfl dJ7_copyOf_59c91_17 ?_
    refine EV.aload_n 19 rfl 0 rfl rfl dJ7_copyOf_59c91_18 ?_
    refine EV.iconst 20 rfl dJ7_copyOf_59c91_19 (v := 0) (by decide) ?_
    refine EV.aload_n 21 rfl 2 rfl rfl dJ7_copyOf_59c91_20 ?_
    refine EV.iconst 22 rfl dJ7_copyOf_59c91_21 (v := 0) (by decide) ?_
    refine EV.aload_n 23 rfl 0 rfl rfl dJ7_copyOf_59c91_22 ?_
    obtain ⟨n11, w10, h⟩ := h
    refine EV.alenI 24 rfl dJ7_copyOf_59c91_23 w10 ?_
    refine EV.iload_n 25 rfl 1 rfl rfl dJ7_copyOf_59c91_24 ?_
    obtain ⟨z12, h⟩ := h
    refine EV.mmin 28 rfl mm_J7_304 z12 (Nat.le_of_ble_eq_true rfl) dJ7_copyOf_59c91_25 ?_
    obtain ⟨z13, p14, p15, p16, z17, z18, z19, z20, z21, h⟩ := h
    refine EV.acopyI 31 rfl ac_J7_150 z13 (Nat.le_of_ble_eq_true rfl) dJ7_copyOf_59c91_28 w10 w9 z17 z18 z19 z20 z21 (EV.nm (fun σ22 e23 => ?_))
    have h := h σ22 e23
    have w24 := tr_hs (hs_rowI_of e23) w9
    have w25 := tr_hs (hs_rowI_of e23) w10
    refine EV.aload_n 32 rfl 2 rfl rfl dJ7_copyOf_59c91_31 ?_
    exact EV.aret rfl (Or.inr ⟨_, rfl⟩) dJ7_copyOf_59c91_32 h
  · have h := h.2 c3
    refine EV.aload_n 7 rfl 0 rfl rfl dJ7_copyOf_59c91_6 ?_
    obtain ⟨z26, h⟩ := h
    refine EV.cloneI 10 rfl cn_I z26 (Nat.le_of_ble_eq_true rfl) dJ7_copyOf_59c91_7 w1 (EV.nqI (fun q27 σ28 eq27 eσ28 => ?_))
    have h := h q27 σ28 eq27 eσ28
    have w29 : hs σ28 q27 = some (22, n2) := by rw [eσ28]; exact up_same _ _ _
    refine EV.castI 13 rfl cc_I dJ7_copyOf_59c91_10 w29 ?_
    exact EV.aret rfl (Or.inr ⟨_, rfl⟩) dJ7_copyOf_59c91_13 h
theorem eJ7_copyOf_59c91 {Γ : Gm} {d : Nat} {σ : AH} {Q : Oc → AH → Prop} {v0 : Nat} {v1 : Int32} (h : ∃ n2 : Nat, hs σ v0 = some (22, n2) ∧ ((v1 ≠ (nI n2) → ∃ n4 : Nat, v1.toInt = (n4 : Int) ∧ n4 ≤ 60000000 ∧ ∀ (q7 : Nat) (σ8 : AH), q7 = lo Γ + hc σ → σ8 = mk σ q7 22 n4 → ∃ n11 : Nat, hs σ8 v0 = some (22, n11) ∧ 1 ≤ d ∧ 2 ≤ d ∧ ∃ p14 p15 p16 : Nat, Int32.toInt 0 = (p14 : Int) ∧ Int32.toInt 0 = (p15 : Int) ∧ Int32.toInt (if v1 < (nI n11) then v1 else (nI n11)) = (p16 : Int) ∧ p14 + p16 ≤ n11 ∧ p15 + p16 ≤ n4 ∧ ∀ σ22 : AH, σ22 = rowI σ8 q7 (va_cpy (gi σ8 v0) (gi σ8 q7) p14 p15 p16) → Q (.inl (some (.ref q7))) σ22) ∧ (v1 = (nI n2) → 1 ≤ d ∧ ∀ (q27 : Nat) (σ28 : AH), q27 = lo Γ + hc σ → σ28 = rowI (mk σ q27 22 n2) q27 (gi σ v0) → Q (.inl (some (.ref q27))) σ28))) : RUN Γ d MJ7_copyOf_59c91 [.ref v0, .int v1] σ Q :=
  EV.enter [some (.ref v0), some (.int v1), none] rfl (by decide +kernel) (Nat.le_of_ble_eq_true rfl) rfl (gJ7_copyOf_59c91_0 h)
theorem gJ7_copyOf_c38d5_0 {Γ : Gm} {d : Nat} {σ : AH} {Q : Oc → AH → Prop} {v0 : Nat} {v1 : Int32} (h : ∃ n2 : Nat, hs σ v0 = some (23, n2) ∧ ((v1 ≠ (nI n2) → ∃ n4 : Nat, v1.toInt = (n4 : Int) ∧ n4 ≤ 60000000 ∧ ∀ (q7 : Nat) (σ8 : AH), q7 = lo Γ + hc σ → σ8 = mk σ q7 23 n4 → ∃ n11 : Nat, hs σ8 v0 = some (23, n11) ∧ 1 ≤ d ∧ 2 ≤ d ∧ ∃ p14 p15 p16 : Nat, Int32.toInt 0 = (p14 : Int) ∧ Int32.toInt 0 = (p15 : Int) ∧ Int32.toInt (if v1 < (nI n11) then v1 else (nI n11)) = (p16 : Int) ∧ p14 + p16 ≤ n11 ∧ p15 + p16 ≤ n4 ∧ ∀ σ22 : AH, σ22 = rowJ σ8 q7 (va_cpy (gj σ8 v0) (gj σ8 q7) p14 p15 p16) → Q (.inl (some (.ref q7))) σ22) ∧ (v1 = (nI n2) → 1 ≤ d ∧ ∀ (q27 : Nat) (σ28 : AH), q27 = lo Γ + hc σ → σ28 = rowJ (mk σ q27 23 n2) q27 (gj σ v0) → Q (.inl (some (.ref q27))) σ28))) : EV Γ MJ7_copyOf_c38d5 d 0 [some (.ref v0), some (.int v1), none] [] σ Q := by
  refine EV.iload_n 1 rfl 1 rfl rfl dJ7_copyOf_c38d5_0 ?_
  refine EV.aload_n 2 rfl 0 rfl rfl dJ7_copyOf_c38d5_1 ?_
  obtain ⟨n2, w1, h⟩ := h
  refine EV.alenJ 3 rfl dJ7_copyOf_c38d5_2 w1 ?_
  refine EV.icmp_ne 6 14 rfl (by decide) dJ7_copyOf_c38d5_3 (fun c3 => ?_) (fun c3 => ?_)
  · have h := h.1 c3
    refine EV.iload_n 15 rfl 1 rfl rfl dJ7_copyOf_c38d5_14 ?_
    obtain ⟨n4, z5, z6, h⟩ := h
    refine EV.newJ 17 rfl (n := n4) ac_long dJ7_copyOf_c38d5_15 z5 z6 (EV.nq (fun q7 σ8 eq7 eσ8 => ?_))
    have h := h q7 σ8 eq7 eσ8
    have w9 : hs σ8 q7 = some (23, n4) := by rw [eσ8]; exact up_same _ _ _
    refine EV.astore_n 18 rfl 2 [some (.ref v0), some (.int v1), some (.ref q7)] rfl (by decide) rfl dJ7_copyOf_c38d5_17 ?_
    refine EV.aload_n 19 rfl 0 rfl rfl dJ7_copyOf_c38d5_18 ?_
    refine EV.iconst 20 rfl dJ7_copyOf_c38d5_19 (v := 0) (by decide) ?_
    refine EV.aload_n 21 rfl 2 rfl rfl dJ7_copyOf_c38d5_20 ?_
    refine EV.iconst 22 rfl dJ7_copyOf_c38d5_21 (v := 0) (by decide) ?_
    refine EV.aload_n 23 rfl 0 rfl rfl dJ7_copyOf_c38d5_22 ?_
    obtain ⟨n11, w10, h⟩ := h
    refine EV.alenJ 24 rfl dJ7_copyOf_c38d5_23 w10 ?_
    refine EV.iload_n 25 rfl 1 rfl rfl dJ7_copyOf_c38d5_24 ?_
    obtain ⟨z12, h⟩ := h
    refine EV.mmin 28 rfl mm_J7_304 z12 (Nat.le_of_ble_eq_true rfl) dJ7_copyOf_c38d5_25 ?_
    obtain ⟨z13, p14, p15, p16, z17, z18, z19, z20, z21, h⟩ := h
    refine EV.acopyJ 31 rfl ac_J7_150 z13 (Nat.le_of_ble_eq_true rfl) dJ7_copyOf_c38d5_28 w10 w9 z17 z18 z19 z20 z21 (EV.nm (fun σ22 e23 => ?_))
    have h := h σ22 e23
    have w24 := tr_hs (hs_rowJ_of e23) w9
    have w25 := tr_hs (hs_rowJ_of e23) w10
    refine EV.aload_n 32 rfl 2 rfl rfl dJ7_copyOf_c38d5_31 ?_
    exact EV.aret rfl (Or.inr ⟨_, rfl⟩) dJ7_copyOf_c38d5_32 h
  · have h := h.2 c3
    refine EV.aload_n 7 rfl 0 rfl rfl dJ7_copyOf_c38d5_6 ?_
    obtain ⟨z26, h⟩ := h
    refine EV.cloneJ 10 rfl cn_J z26 (Nat.le_of_ble_eq_true rfl) dJ7_copyOf_c38d5_7 w1 (EV.nqJ (fun q27 σ28 eq27 eσ28 => ?_))
    have h := h q27 σ28 eq27 eσ28
    have w29 : hs σ28 q27 = some (23, n2) := by rw [eσ28]; exact up_same _ _ _
    refine EV.castJ 13 rfl cc_J dJ7_copyOf_c38d5_10 w29 ?_
    exact EV.aret rfl (Or.inr ⟨_, rfl⟩) dJ7_copyOf_c38d5_13 h
theorem eJ7_copyOf_c38d5 {Γ : Gm} {d : Nat} {σ : AH} {Q : Oc → AH → Prop} {v0 : Nat} {v1 : Int32} (h : ∃ n2 : Nat, hs σ v0 = some (23, n2) ∧ ((v1 ≠ (nI n2) → ∃ n4 : Nat, v1.toInt = (n4 : Int) ∧ n4 ≤ 60000000 ∧ ∀ (q7 : Nat) (σ8 : AH), q7 = lo Γ + hc σ → σ8 = mk σ q7 23 n4 → ∃ n11 : Nat, hs σ8 v0 = some (23, n11) ∧ 1 ≤ d ∧ 2 ≤ d ∧ ∃ p14 p15 p16 : Nat, Int32.toInt 0 = (p14 : Int) ∧ Int32.toInt 0 = (p15 : Int) ∧ Int32.toInt (if v1 < (nI n11) then v1 else (nI n11)) = (p16 : Int) ∧ p14 + p16 ≤ n11 ∧ p15 + p16 ≤ n4 ∧ ∀ σ22 : AH, σ22 = rowJ σ8 q7 (va_cpy (gj σ8 v0) (gj σ8 q7) p14 p15 p16) → Q (.inl (some (.ref q7))) σ22) ∧ (v1 = (nI n2) → 1 ≤ d ∧ ∀ (q27 : Nat) (σ28 : AH), q27 = lo Γ + hc σ → σ28 = rowJ (mk σ q27 23 n2) q27 (gj σ v0) → Q (.inl (some (.ref q27))) σ28))) : RUN Γ d MJ7_copyOf_c38d5 [.ref v0, .int v1] σ Q :=
  EV.enter [some (.ref v0), some (.int v1), none] rfl (by decide +kernel) (Nat.le_of_ble_eq_true rfl) rfl (gJ7_copyOf_c38d5_0 h)
