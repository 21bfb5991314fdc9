/-! ROWS of the model: fail; bytes of the output, what is listed. -/
section MQ4
variable {Γ : Gm} {d : Nat} {σ : AH} {own mad : Nat → Nat} {S : StT} {c : Nat}
theorem mfail_call {k : Int32} {K : Int32 → AH → Prop} {KX : String → AH → Prop} (R : RepM Γ σ own mad S c) (h : K 0 (setI σ (mad 0) 0 k)) (hd : 1 ≤ d) : CI Γ d MX9_fail [.ref (mad 0), .int k] σ K KX := by
  refine CI.of (d2 := 0) (P := fun r σ' => r = 0 ∧ σ' = setI σ (mad 0) 0 k) (eX9_fail ⟨R.2.1.1, fun σ2 e2 => ⟨0, rfl, rfl, e2⟩⟩) (by omega) (fun r σ1 _ q => ?_)
  obtain ⟨q1, q2⟩ := q
  subst q1
  rw [q2]; exact h
theorem setI_two (σ : AH) (a i : Nat) (x y : Int32) : setI (setI σ a i x) a i y = setI σ a i y := setI_setI σ a i x y
/-- thrown set to 0, then to k -/
theorem mfail_at {k : Nat} {σ2 : AH} {M : MI} {A : AnsT} (R : RepM Γ σ own mad S c) (W : WF Γ σ) (e2 : σ2 = setI σ (mad 0) 0 0) (hA : A = (k, 0, S)) (hd : 1 ≤ d) : CI Γ d MX9_fail [.ref (mad 0), .int (nI k)] σ2 (fun r2 σ1 => ansM A (mad 0) (.inl (some (.int r2))) σ1 ∧ StepM Γ σ own mad c A.2.2 σ1) (fun E σ1 => ansM A (mad 0) (.inr E) σ1 ∧ StepM Γ σ own mad c A.2.2 σ1) := by
  obtain ⟨R2, F2, g2, st, W2⟩ := mq_code R W e2
  obtain ⟨R3, F3, g3, st3, W3⟩ := mq_code R2 W2 (x := nI k) rfl
  refine mfail_call R2 ?_ hd
  rw [hA]
  refine ⟨⟨rfl, g3⟩, StepM.same R3 (F2.trans (F3.mono (fun a h => ?_))) (by rw [e2]; rfl) (by rw [e2]; rfl)⟩
  rcases h with z | z
  · exact Or.inl z
  · exact Or.inr (by rw [e2] at z; exact z)
theorem moutputByte_C {i : Int32} (R : RepM Γ σ own mad S c) (hd : 4 ≤ d) : CMN Γ d MX9_outputByte [.ref (mad 0), .int i] σ own mad c (aOut S i) := by
  refine RUN.wf (fun W => eX9_outputByte ⟨R.2.1.1, fun σ2 e2 => ?_⟩)
  obtain ⟨R2, F2, g2, st, W2⟩ := mq_code R W e2
  have y3 : gi σ2 (mad 0) 4 = nI (sOL S) := R2.2.2.2.1.2.1
  have l : sOL S ≤ 1000 := R.2.2.2.2.2.2.2.1
  have bad : (i < 0 ∨ nI (sOL S) ≤ i) → EV Γ MX9_outputByte d 26 [some (.ref (mad 0)), none] [] σ2 (fun oc σ' => ansM (aOut S i) (mad 0) oc σ' ∧ StepM Γ σ own mad c (aOut S i).2.2 σ') := fun h =>
    gX9_outputByte_26 ⟨R2.2.1.1, mfail_at (k := 1) (M := MX9_outputByte) R W e2 (if_pos h) (by omega)⟩
  refine ⟨fun z => bad (Or.inl z), fun z1 => ?_⟩
  rw [y3]
  refine ⟨fun z => bad (Or.inr z), fun z2 => ?_⟩
  have hA : aOut S i = (0, sO S (ixF i), S) := if_neg (fun y => y.elim z1 z2)
  rw [hA]
  obtain ⟨k, hk, rfl⟩ := nI_of z1
  have ek : ixF (nI k) = k := pk_tn (by omega)
  have kl : k < sOL S := by
    rcases Nat.lt_or_ge k (sOL S) with v | v
    · exact v
    · exact absurd ((nI_leI (by omega) hk).mpr v) z2
  refine ⟨mad 2, R2.2.1.2.2.1, 1000, R2.2.2.1.2.1, k, IXn (by omega) (by omega), ⟨?_, g2⟩, st⟩
  rw [R2.2.2.2.2.1.2.1 k kl, ek]
theorem menumerated_C {i : Int32} (R : RepM Γ σ own mad S c) (hd : 4 ≤ d) : CMN Γ d MX9_enumerated [.ref (mad 0), .int i] σ own mad c (aEnd S i) := by
  refine RUN.wf (fun W => eX9_enumerated ⟨R.2.1.1, fun σ2 e2 => ?_⟩)
  obtain ⟨R2, F2, g2, st, W2⟩ := mq_code R W e2
  have y3 : gi σ2 (mad 0) 12 = nI (sHL S) := R2.2.2.2.1.2.2.2.2.2
  have l : sHL S ≤ 300 := R.2.2.2.2.2.2.2.2.2.1
  have bad : (i < 0 ∨ nI (sHL S) ≤ i) → EV Γ MX9_enumerated d 26 [some (.ref (mad 0)), none] [] σ2 (fun oc σ' => ansM (aEnd S i) (mad 0) oc σ' ∧ StepM Γ σ own mad c (aEnd S i).2.2 σ') := fun h =>
    gX9_enumerated_26 ⟨R2.2.1.1, mfail_at (k := 1) (M := MX9_enumerated) R W e2 (if_pos h) (by omega)⟩
  refine ⟨fun z => bad (Or.inl z), fun z1 => ?_⟩
  rw [y3]
  refine ⟨fun z => bad (Or.inr z), fun z2 => ?_⟩
  have hA : aEnd S i = (0, sH S (ixF i), S) := if_neg (fun y => y.elim z1 z2)
  rw [hA]
  obtain ⟨k, hk, rfl⟩ := nI_of z1
  have ek : ixF (nI k) = k := pk_tn (by omega)
  have kl : k < sHL S := by
    rcases Nat.lt_or_ge k (sHL S) with v | v
    · exact v
    · exact absurd ((nI_leI (by omega) hk).mpr v) z2
  refine ⟨mad 6, R2.2.1.2.2.2.2.2.2.1, 300, R2.2.2.1.2.2.2.2.2.1, k, IXn (by omega) (by omega), ⟨?_, g2⟩, st⟩
  rw [R2.2.2.2.2.1.2.2.2.2.1 k kl, ek]
end MQ4
