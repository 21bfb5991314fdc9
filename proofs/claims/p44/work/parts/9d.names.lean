/-! ROWS of FamilyStore: the operations by their names. -/
section OPN
variable {Γ : Gm} {d : Nat} {σ : AH} {own ad : Nat → Nat} {S : StT} {c w : Nat}
theorem one_wrap {o : Nat} {f : Int32} (R : RepC Γ σ own ad S c w) (h1 : 10 ≤ o) (h9 : o ≤ 13) (hd : 11 ≤ d) : CI Γ d MX8_addOfOne [.ref (ad 0), .int f, .int (nI (clsOp o))] σ (fun r2 σ1 => ansO [IOB, NSE, ISE] (aOne o S f) (.inl (some (.int r2))) ∧ StepC Γ σ own ad c w (aOne o S f).2.2 σ1) (fun E σ1 => ansO [IOB, NSE, ISE] (aOne o S f) (.inr E) ∧ StepC Γ σ own ad c w (aOne o S f).2.2 σ1) := by
  refine CALL.mono (addOfOne_R (f := f) R h1 h9 (Nat.le_refl 10)) (by omega) (fun v σ1 _ q => ?_) (fun E σ1 _ q => q)
  have q1 := q.1
  unfold ansO at q1
  split at q1
  · exact ⟨_, by rw [Sum.inl.inj q1], by rw [← q1]; exact q.1, q.2⟩
  · exact absurd q1 (by simp)
theorem union_C {f g : Int32} (R : RepC Γ σ own ad S c w) (hd : 11 ≤ d) : CLM Γ d MX8_union [.ref (ad 0), .int f, .int g] σ own ad c w [IOB, NSE, ISE] (aTwo 1 S f g) :=
  eX8_union ⟨R.x0, by
    have h := two_wrap (o := 1) (f := f) (g := g) R (by omega) (by omega) hd [IOB, NSE, ISE] (Or.inr ⟨rfl, by unfold isDv; omega⟩)
    rw [show nI (clsOp 1) = (43 : Int32) from by decide] at h
    exact h⟩
theorem difference_C {f g : Int32} (R : RepC Γ σ own ad S c w) (hd : 11 ≤ d) : CLM Γ d MX8_difference [.ref (ad 0), .int f, .int g] σ own ad c w [IOB, NSE, ISE] (aTwo 2 S f g) :=
  eX8_difference ⟨R.x0, by
    have h := two_wrap (o := 2) (f := f) (g := g) R (by omega) (by omega) hd [IOB, NSE, ISE] (Or.inr ⟨rfl, by unfold isDv; omega⟩)
    rw [show nI (clsOp 2) = (45 : Int32) from by decide] at h
    exact h⟩
theorem intersection_C {f g : Int32} (R : RepC Γ σ own ad S c w) (hd : 11 ≤ d) : CLM Γ d MX8_intersection [.ref (ad 0), .int f, .int g] σ own ad c w [IOB, NSE, ISE] (aTwo 3 S f g) :=
  eX8_intersection ⟨R.x0, by
    have h := two_wrap (o := 3) (f := f) (g := g) R (by omega) (by omega) hd [IOB, NSE, ISE] (Or.inr ⟨rfl, by unfold isDv; omega⟩)
    rw [show nI (clsOp 3) = (38 : Int32) from by decide] at h
    exact h⟩
theorem join_C {f g : Int32} (R : RepC Γ σ own ad S c w) (hd : 11 ≤ d) : CLM Γ d MX8_join [.ref (ad 0), .int f, .int g] σ own ad c w [IOB, NSE, ISE] (aTwo 4 S f g) :=
  eX8_join ⟨R.x0, by
    have h := two_wrap (o := 4) (f := f) (g := g) R (by omega) (by omega) hd [IOB, NSE, ISE] (Or.inr ⟨rfl, by unfold isDv; omega⟩)
    rw [show nI (clsOp 4) = (42 : Int32) from by decide] at h
    exact h⟩
theorem quotient_C {f g : Int32} (R : RepC Γ σ own ad S c w) (hd : 11 ≤ d) : CLM Γ d MX8_quotient [.ref (ad 0), .int f, .int g] σ own ad c w [IOB, NSE, ISE, ARE] (aTwo 5 S f g) :=
  eX8_quotient ⟨R.x0, by
    have h := two_wrap (o := 5) (f := f) (g := g) R (by omega) (by omega) hd [IOB, NSE, ISE, ARE] (Or.inl rfl)
    rw [show nI (clsOp 5) = (47 : Int32) from by decide] at h
    exact h⟩
theorem remainder_C {f g : Int32} (R : RepC Γ σ own ad S c w) (hd : 11 ≤ d) : CLM Γ d MX8_remainder [.ref (ad 0), .int f, .int g] σ own ad c w [IOB, NSE, ISE, ARE] (aTwo 6 S f g) :=
  eX8_remainder ⟨R.x0, by
    have h := two_wrap (o := 6) (f := f) (g := g) R (by omega) (by omega) hd [IOB, NSE, ISE, ARE] (Or.inl rfl)
    rw [show nI (clsOp 6) = (37 : Int32) from by decide] at h
    exact h⟩
theorem maximal_C {f : Int32} (R : RepC Γ σ own ad S c w) (hd : 11 ≤ d) : CLM Γ d MX8_maximal [.ref (ad 0), .int f] σ own ad c w [IOB, NSE, ISE] (aOne 10 S f) :=
  eX8_maximal ⟨R.x0, by
    have h := one_wrap (o := 10) (f := f) R (by omega) (by omega) hd
    rw [show nI (clsOp 10) = (4 : Int32) from by decide] at h
    exact h⟩
theorem minimal_C {f : Int32} (R : RepC Γ σ own ad S c w) (hd : 11 ≤ d) : CLM Γ d MX8_minimal [.ref (ad 0), .int f] σ own ad c w [IOB, NSE, ISE] (aOne 11 S f) :=
  eX8_minimal ⟨R.x0, by
    have h := one_wrap (o := 11) (f := f) R (by omega) (by omega) hd
    rw [show nI (clsOp 11) = (5 : Int32) from by decide] at h
    exact h⟩
theorem hitting_C {f : Int32} (R : RepC Γ σ own ad S c w) (hd : 11 ≤ d) : CLM Γ d MX8_hitting [.ref (ad 0), .int f] σ own ad c w [IOB, NSE, ISE] (aOne 12 S f) :=
  eX8_hitting ⟨R.x0, by
    have h := one_wrap (o := 12) (f := f) R (by omega) (by omega) hd
    rw [show nI (clsOp 12) = (6 : Int32) from by decide] at h
    exact h⟩
end OPN

