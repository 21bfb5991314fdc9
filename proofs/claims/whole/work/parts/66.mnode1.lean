/-! ROWS of the model: clearNodes, longer. -/
theorem clearNodes_R {Γ : Gm} {d : Nat} {σ : AH} {mo sl N : Nat} (h0 : hs σ mo = some (7, 27)) (h1 : gr σ mo 19 = some sl) (h2 : hs σ sl = some (22, N)) (hN : N < 2 ^ 30) : RV Γ d MX9_clearNodes [.ref mo] σ (fun σ' => σ' = rowI (setI σ mo 20 0) sl (fl (fun _ => -1) (gi σ sl) N)) := by
  have ne : sl ≠ mo := hs_ne h2 h0 (show (22 : Nat) ≠ 7 by decide)
  refine eX9_clearNodes ⟨h0, fun σ2 e2 => ?_⟩
  have g2 : gi σ2 sl = gi σ sl := by rw [e2]; exact gi_setI_n _ _ _ ne
  have L : ∀ k, k ≤ N → EV Γ MX9_clearNodes d 7 [some (.ref mo), some (.int (nI k))] [] (rowI σ2 sl (fl (fun _ => -1) (gi σ2 sl) k)) (fun o σ' => o = .inl none ∧ σ' = rowI σ2 sl (fl (fun _ => -1) (gi σ2 sl) N)) := by
    refine upto N ?_ (fun k hk ih => ?_)
    · refine gX9_clearNodes_7 ⟨by rw [e2]; exact h0, sl, by rw [e2]; exact h1, N, by rw [e2]; exact h2, fun _ => ⟨rfl, rfl⟩, fun z => absurd ((nI_leI (by omega) (by omega)).mpr (Nat.le_refl _)) z⟩
    · refine gX9_clearNodes_7 ⟨by rw [e2]; exact h0, sl, by rw [e2]; exact h1, N, by rw [e2]; exact h2, fun z => absurd ((nI_leI (by omega) (by omega)).mp z) (by omega), fun _ => ⟨k, IXn hk (by omega), fun τ ht => ?_⟩⟩
      rw [fillI _ _ _ _ _ _ rfl] at ht
      rw [ht, nI_1]
      exact ih
  have := L 0 (by omega)
  rw [rowI_fl0] at this
  refine this.post (fun o σ' ⟨q1, q2⟩ => ⟨q1, ?_⟩)
  rw [q2, g2, e2]
theorem longer_R {Γ : Gm} {d : Nat} {σ : AH} {a n : Nat} (ha : hs σ a = some (22, n)) (hn : n < 2 ^ 24) : RQ Γ d MX9_longer [.ref a] σ (fun r σ' => r = some (lo Γ + hc σ) ∧ ∃ f, σ' = rowI (mk σ (lo Γ + hc σ) 22 (2 * n)) (lo Γ + hc σ) f ∧ (∀ i, i < n → f i = gi σ a i) ∧ ∀ i, n ≤ i → f i = 0) := by
  refine RUN.wf (fun W => ?_)
  have ne : a ≠ lo Γ + hc σ := fresh_ne W ha
  refine eX9_longer ⟨n, ha, 2 * n, by rw [show (2 : Int32) * nI n = nI (2 * n) from pk_mul 2 n]; exact nI_toInt (by omega), by omega, fun q σ7 hq h7 => ?_⟩
  subst hq
  have s7 : hs σ7 a = some (22, n) := by rw [h7, hs_mk_n _ _ _ ne]; exact ha
  have q7 : hs σ7 (lo Γ + hc σ) = some (22, 2 * n) := by rw [h7]; exact hs_mk_s _ _ _ _
  have g7 : gi σ7 a = gi σ a := by rw [h7]; exact gi_mk_n _ _ _ ne
  have z7 : gi σ7 (lo Γ + hc σ) = fun _ => 0 := by rw [h7]; exact gi_mk_s _ _ _ _
  have L : ∀ k, k ≤ n → EV Γ MX9_longer d 9 [some (.ref a), some (.ref (lo Γ + hc σ)), some (.int (nI k))] [] (rowI σ7 (lo Γ + hc σ) (fl (gi σ a) (fun _ => 0) k)) (fun o σ' => ∃ r : Option Nat, o = .inl (some (va_rf r)) ∧ r = some (lo Γ + hc σ) ∧ ∃ f, σ' = rowI (mk σ (lo Γ + hc σ) 22 (2 * n)) (lo Γ + hc σ) f ∧ (∀ i, i < n → f i = gi σ a i) ∧ ∀ i, n ≤ i → f i = 0) := by
    refine upto n ?_ (fun k hk ih => ?_)
    · refine gX9_longer_9 ⟨n, s7, fun _ => ⟨some _, rfl, rfl, _, by rw [h7], fun i hi => fl_in hi, fun i hi => fl_out hi⟩, fun z => absurd ((nI_leI (by omega) (by omega)).mpr (Nat.le_refl _)) z⟩
    · refine gX9_longer_9 ⟨n, s7, fun z => absurd ((nI_leI (by omega) (by omega)).mp z) (by omega), fun _ => ⟨k, IXn hk (by omega), 2 * n, q7, k, IXn (by omega) (by omega), fun τ ht => ?_⟩⟩
      rw [gi_rown _ _ ne, g7, fillI _ _ _ _ _ _ rfl] at ht
      rw [ht, nI_1]
      exact ih
  have := L 0 (by omega)
  rw [fl_0, ← z7, rowI_self] at this
  exact this
