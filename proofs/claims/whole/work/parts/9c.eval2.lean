/-! ROWS of FamilyStore: evaluate; the operations by their names. -/
theorem CALL.mono {Γ : Gm} {d d2 : Nat} {M : MI} {vs : List Value} {σ : AH} {P : Oc → AH → Prop} {K : Option Value → AH → Prop} {KX : String → AH → Prop} (h : RUN Γ d2 M vs σ P) (hd : d2 < d) (k1 : ∀ v σ1, WF Γ σ1 → P (.inl v) σ1 → K v σ1) (k2 : ∀ E σ1, WF Γ σ1 → P (.inr E) σ1 → KX E σ1) : CALL Γ d M vs σ K KX := by
  intro W
  obtain ⟨o, σ1, r, w, q⟩ := h W
  refine ⟨d2, hd, o, σ1, r, w, ?_⟩
  cases o with
  | inl v => exact k1 v σ1 w q
  | inr E => exact k2 E σ1 w q
section EV2
variable {Γ : Gm} {d : Nat} {σ : AH} {own ad : Nat → Nat} {S : StT} {c w : Nat}
theorem evaluate_R {R0 : RS} (R : RepC Γ σ own ad S c w) (H : CN Γ MX6_readSum (dS 0) (ad 10) (ad 1) (ad 3) (ad 11) (ad 12) (sT S) (sTL S) (okv S) (skp (sT S) (sTL S) 0) [.ref (ad 10), .int (nI 0)] R0) (G : RG (sT S) (sTL S) (sN S) (sR S) (skp (sT S) (sTL S) 0) (nS 0) R0) (hd : 120 ≤ d) : CLM Γ d MX8_evaluate [.ref (ad 0)] σ own ad c w [IAE, ISE, ARE] (aEval S R0) := by
  refine RUN.wf (fun W => ?_)
  have x1 := R.2.1
  have O := R.1
  have n0 : ∀ i, i < 20 → i ≠ 0 → ad i ≠ ad 0 := fun i hi h => O.ne hi (by omega) h
  refine eX8_evaluate ⟨R.x0, ad 10, x1.2.2.2.2.2.2.2.2.1, ad 1, x1.2.1, ad 3, x1.2.2.2.1, R.2.2.2.1.1, ?_⟩
  rw [R.2.2.1.1]
  refine CI.of (d2 := 112) (read_R R H (by omega)) (by omega) (fun r9 σ8 W8 y => ?_)
  obtain ⟨y1, R8, F8, c8, v8, ok8⟩ := y
  refine ⟨R8.x0, fun σ12 e12 σ15 e15 => ?_⟩
  obtain ⟨R15, F15⟩ := R8.err (x := r9) W8
  rw [← e12, ← e15] at R15 F15
  have W12 : WF Γ σ12 := by rw [e12]; exact W8.upd R8.x0 (by decide) rfl rfl (fun _ _ => rfl)
  have W15 : WF Γ σ15 := by rw [e15]; exact W12.upd (k := 6) (n := 17) (by rw [e12]; exact R8.x0) (by decide) rfl rfl (fun _ _ => rfl)
  have c15 : hc σ15 = hc σ := by rw [e15, e12]; exact c8
  have v15 : hv σ15 = hv σ := by rw [e15, e12]; exact v8
  have F : FR (RP CW own (lo Γ + hc σ)) σ σ15 := (F8.mono (fun a h => Or.inl (RD3.cw O h))).trans (F15.mono (fun a h => Or.inl (IN.cw O h)))
  have g2 : gi σ15 (ad 0) 2 = r9 := R15.2.2.1.2.1
  rw [g2, y1]
  rw [y1] at R15
  have fail : ∀ A : Int32, A = rdA S R0 → aEval S R0 = (1, 0, stE S A) → (6 ≤ d ∧ (ansO [IAE, ISE, ARE] (aEval S R0) (.inr "java/lang/IllegalArgumentException") ∧ StepC Γ σ own ad c w (aEval S R0).2.2 (thr σ15))) := by
    intro A e1 e2
    rw [e2, e1]
    exact ⟨by omega, rfl, StepC.pre2 F c15 v15 (StepC.thr R15 W15)⟩
  cases R0 with
  | inl e =>
    have he : e ≤ 200 := ok8
    exact ⟨fun z => absurd z (nI_pos (n := e) (by omega)), fun _ => fail (nI e) rfl rfl⟩
  | inr x =>
    obtain ⟨g1, g3, g4, g5, g6, g7⟩ := G x rfl
    have t2 := R.lt.1
    by_cases tk : tkd (sT S) (sTL S) x.1 = 11
    · have er : rdA S (.inr x) = -1 := if_pos tk
      rw [er] at R15 ⊢
      have eA : aEval S (.inr x) = if sN S = 200 then (2, 0, stE S (-1)) else aRun S (exe (sF S) x.2 0 (fun _ => zf)) := if_pos tk
      rw [eA]
      refine ⟨fun _ => room_call R15 (fun e => ?_) (fun hn => ?_) (by omega), fun z => absurd (by decide) z⟩
      · have e : sN S = 200 := e
        rw [if_pos e]
        exact ⟨rfl, StepC.pre2 F c15 v15 (StepC.thr R15 W15)⟩
      · have hn : sN S < 200 := hn
        rw [if_neg (by omega)]
        have x15 := R15.2.1
        obtain ⟨k1, k2, k3⟩ := ok8 tk
        have nIN : ∀ i, i < 20 → i ≠ 0 → i ≠ 1 → i ≠ 2 → i ≠ 19 → ¬ IN ad (ad i) := fun i a b c d' e => IN.no (σ := σ) O a b c d' e
        refine ⟨R15.x0, ad 13, x15.2.2.2.2.2.2.2.2.2.1, ad 10, x15.2.2.2.2.2.2.2.2.1, ad 3, x15.2.2.2.1, ad 6, x15.2.2.2.2.2.2.1, R15.2.2.2.2.2.1.1, ?_⟩
        refine run_part R15 W15 hn k2 (by rw [F15.gi (nIN 10 (by omega) (by omega) (by omega) (by omega) (by omega))]; exact k1) (fun j s hj => ?_) (g7 0 (by unfold nS; omega)) g6 (by omega) (fun hX τ st => ?_) (fun S1 hX τ t Wτ k => ?_)
        · rw [F15.gi (nIN 11 (by omega) (by omega) (by omega) (by omega) (by omega)), F15.gi (nIN 12 (by omega) (by omega) (by omega) (by omega) (by omega))]
          exact k3 j s hj
        · have hX : exe (sF S) x.2 0 (fun _ => zf) = none := hX
          rw [hX]
          exact ⟨fun _ => ⟨by omega, rfl, StepC.pre2 F c15 v15 st⟩, fun t y => absurd y (by simp)⟩
        · have hX : exe (sF S) x.2 0 (fun _ => zf) = some S1 := hX
          rw [hX]
          refine ⟨fun y => absurd y (by simp), fun t' y => ?_⟩
          rw [← Option.some.inj y]
          exact k _ _ (fun σ' st => ⟨rfl, StepC.pre2 F c15 v15 st⟩)
    · have er : rdA S (.inr x) = nI x.1 := if_neg tk
      have eA : aEval S (.inr x) = (1, 0, stE S (nI x.1)) := if_neg tk
      have fl := fail (nI x.1) er.symm eA
      rw [er]
      exact ⟨fun z => absurd z (nI_pos (n := x.1) (by omega)), fun _ => fl⟩
theorem two_wrap {o : Nat} {f g : Int32} (R : RepC Γ σ own ad S c w) (h1 : 1 ≤ o) (h9 : o ≤ 9) (hd : 15 ≤ d) (l : List String) (hl : l = [IOB, NSE, ISE, ARE] ∨ (l = [IOB, NSE, ISE] ∧ ¬ isDv o)) : CI Γ d MX8_addOfTwo [.ref (ad 0), .int f, .int g, .int (nI (clsOp o))] σ (fun r2 σ1 => ansO l (aTwo o S f g) (.inl (some (.int r2))) ∧ StepC Γ σ own ad c w (aTwo o S f g).2.2 σ1) (fun E σ1 => ansO l (aTwo o S f g) (.inr E) ∧ StepC Γ σ own ad c w (aTwo o S f g).2.2 σ1) := by
  have h := addOfTwo_R (f := f) (g := g) R h1 h9 (Nat.le_refl 14)
  have le : ∀ oc, ansO [IOB, NSE, ISE, ARE] (aTwo o S f g) oc → ansO l (aTwo o S f g) oc := by
    intro oc ho
    rcases hl with e | ⟨e, nd⟩
    · rw [e]; exact ho
    · rw [e]
      unfold ansO at ho ⊢
      have : (aTwo o S f g).1 ≤ 3 := by
        unfold aTwo
        split
        · show 1 ≤ 3; omega
        · split
          · show 2 ≤ 3; omega
          · split
            · show 3 ≤ 3; omega
            · rw [if_neg (by rw [bd_false.mpr (fun z => nd z.1)]; decide)]
              show 0 ≤ 3; omega
      generalize (aTwo o S f g).1 = k at *
      have kc : k = 0 ∨ k = 1 ∨ k = 2 ∨ k = 3 := by omega
      rcases kc with rfl | rfl | rfl | rfl <;> exact ho
  refine CALL.mono h (by omega) (fun v σ1 _ q => ?_) (fun E σ1 _ q => ⟨le _ q.1, q.2⟩)
  have q1 := q.1
  unfold ansO at q1
  split at q1
  · exact ⟨_, by rw [Sum.inl.inj q1], le _ (by rw [← q1]; exact q.1), q.2⟩
  · exact absurd q1 (by simp)
end EV2
