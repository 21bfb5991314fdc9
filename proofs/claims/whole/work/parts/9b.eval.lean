/-! ROWS of FamilyStore: an expression evaluated. -/
noncomputable def aRun (S : StT) : Option (Nat → Nat → Bool) → AnsT
  | none => (3, 0, stE S (-1))
  | some S1 => (0, nI (sN S), stA (stE S (-1)) (S1 0))
noncomputable def aEval (S : StT) : RS → AnsT
  | .inl e => (1, 0, stE S (nI e))
  | .inr x => if tkd (sT S) (sTL S) x.1 = 11 then (if sN S = 200 then (2, 0, stE S (-1)) else aRun S (exe (sF S) x.2 0 (fun _ => zf))) else (1, 0, stE S (nI x.1))
/-- what reading answers: -1, or where the first error is -/
def rdA (S : StT) : RS → Int32
  | .inl e => nI e
  | .inr x => if tkd (sT S) (sTL S) x.1 = 11 then -1 else nI x.1
section EVL
variable {Γ : Gm} {d : Nat} {σ : AH} {own ad : Nat → Nat} {S : StT} {c w : Nat}
def RD3 (ad : Nat → Nat) (a : Nat) : Prop := a = ad 10 ∨ a = ad 11 ∨ a = ad 12
theorem RepC.rd {σ' : AH} (R : RepC Γ σ own ad S c w) (W : WF Γ σ) (F : FR (RD3 ad) σ σ') (C : C3 σ' ad) (hh : hc σ' = hc σ) : RepC Γ σ' own ad S c w := by
  obtain ⟨O, x1, x2, x3, x4, x5, x6, x7, x8, x9⟩ := R
  have hb : ∀ a x, hs σ a = some x → a < lo Γ + hc σ := W.1
  have no : ∀ i, i < 20 → i ≠ 10 → i ≠ 11 → i ≠ 12 → ¬ RD3 ad (ad i) := fun i hi h0 h1 h2 z => by
    rcases z with z | z | z
    · exact O.ne hi (by omega) h0 z
    · exact O.ne hi (by omega) h1 z
    · exact O.ne hi (by omega) h2 z
  have nr : ∀ a, (21 ≤ own a ∧ own a ≤ 26) → ¬ RD3 ad a := fun a h z => by
    rcases z with z | z | z
    · rw [z, (O 10 (by omega)).1] at h; omega
    · rw [z, (O 11 (by omega)).1] at h; omega
    · rw [z, (O 12 (by omega)).1] at h; omega
  exact ⟨by rw [hh]; exact O, x1.fr F (no 0 (by omega) (by omega) (by omega) (by omega)) (no 6 (by omega) (by omega) (by omega) (by omega)), x2.fr F (no 0 (by omega) (by omega) (by omega) (by omega)) (no 1 (by omega) (by omega) (by omega) (by omega)) (no 2 (by omega) (by omega) (by omega) (by omega)) (no 19 (by omega) (by omega) (by omega) (by omega)), C, x4.fr F (no 15 (by omega) (by omega) (by omega) (by omega)) (no 16 (by omega) (by omega) (by omega) (by omega)) (no 17 (by omega) (by omega) (by omega) (by omega)) (no 18 (by omega) (by omega) (by omega) (by omega)), x5.fr F (no 13 (by omega) (by omega) (by omega) (by omega)) (no 14 (by omega) (by omega) (by omega) (by omega)) (fun _ _ _ => rfl) hb, x6.fr F (no 3 (by omega) (by omega) (by omega) (by omega)) (fun a _ h => nr a (by omega)) (fun _ _ _ => rfl) (by omega), x7.fr F (no 9 (by omega) (by omega) (by omega) (by omega)) (fun a _ h => nr a (by omega)) (fun _ _ _ => rfl) hb, by unfold nnr; rw [F.gr (no 14 (by omega) (by omega) (by omega) (by omega))]; exact x8, x9⟩
theorem RepC.calc {σ' : AH} {own' : Nat → Nat} (R : RepC Γ σ own ad S c w) (W : WF Γ σ) (F : FR (RP cW own (lo Γ + hc σ)) σ σ') (A : AlgOK σ' (ad 6) (ad 4) (ad 5) (ad 7) (ad 8)) (K : CalOK σ' own' (ad 13) (ad 14)) (ag : ∀ a, a < lo Γ + hc σ → own' a = own a) : RepC Γ σ' own' ad S c (nnr σ' (ad 14)) := by
  obtain ⟨O, x1, x2, x3, x4, x5, x6, x7, x8, x9⟩ := R
  have hb : ∀ a x, hs σ a = some x → a < lo Γ + hc σ := W.1
  have ho : ∀ a, a < lo Γ + hc σ → own a ≠ 99 → own' a = own a := fun a ha _ => ag a ha
  have hle : lo Γ + hc σ ≤ lo Γ + hc σ' := Nat.add_le_add_left F.1 _
  have no : ∀ i, i < 20 → ¬ cW (i + 1) → ¬ RP cW own (lo Γ + hc σ) (ad i) := fun i hi h => O.no hi h
  have n0 := no 0 (by omega) (by unfold cW; omega)
  refine ⟨O.to ho hle, ?_, x2.fr F n0 (no 1 (by omega) (by unfold cW; omega)) (no 2 (by omega) (by unfold cW; omega)) (no 19 (by omega) (by unfold cW; omega)), x3.fr F (no 10 (by omega) (by unfold cW; omega)), x4.fr F (no 15 (by omega) (by unfold cW; omega)) (no 16 (by omega) (by unfold cW; omega)) (no 17 (by omega) (by unfold cW; omega)) (no 18 (by omega) (by unfold cW; omega)), K, x6.fr F (no 3 (by omega) (by unfold cW; omega)) (fun a ha h => RP_no rfl ha (by unfold cW; omega)) ho hle, x7.fr F (no 9 (by omega) (by unfold cW; omega)) (fun a ha h => RP_no rfl ha (by unfold cW; omega)) ho hb, rfl, x9⟩
  obtain ⟨z0, z1, z2, z3, z4, z5, z6, z7, z8, z9, z10, z11, z12, z13, z14, z15, z16⟩ := x1
  have g := F.gr n0
  refine ⟨F.gh z0, ?_, ?_, ?_, ?_, ?_, ?_, ?_, ?_, ?_, ?_, ?_, F.gh z12, F.gh z13, F.gh z14, F.gh z15, A⟩
  all_goals rw [g]; assumption
/-- text emptied, the error set -/
theorem RepC.err {x : Int32} (R : RepC Γ σ own ad S c w) (W : WF Γ σ) : RepC Γ (setI (setI σ (ad 0) 2 x) (ad 0) 1 0) own ad (stE S x) c w ∧ FR (IN ad) σ (setI (setI σ (ad 0) 2 x) (ad 0) 1 0) := by
  have F : FR (IN ad) σ (setI (setI σ (ad 0) 2 x) (ad 0) 1 0) := (FR.setI σ _ _ (Or.inl rfl)).trans (FR.setI _ _ _ (Or.inl rfl))
  have R' := R
  obtain ⟨O, x1, ⟨y1, y2, y3, y4, y5, y6, y7, y8, y9⟩, x3, x4, x5, x6, x7, x8, ⟨z1, z2, z3, z4, z5, z6, z7, z8⟩⟩ := R'
  have ge : ∀ i, i < 20 → i ≠ 0 → gi (setI (setI σ (ad 0) 2 x) (ad 0) 1 0) (ad i) = gi σ (ad i) := fun i hi h => (up_ne _ _ (O.ne hi (by omega) h)).trans (up_ne _ _ (O.ne hi (by omega) h))
  have g0 : gi (setI (setI σ (ad 0) 2 x) (ad 0) 1 0) (ad 0) = up (up (gi σ (ad 0)) 2 x) 1 0 := (up_same _ _ _).trans (by rw [show gi (setI σ (ad 0) 2 x) (ad 0) = up (gi σ (ad 0)) 2 x from up_same _ _ _])
  refine ⟨R.ints W F rfl rfl ?_ ?_ rfl rfl rfl rfl, F⟩
  · unfold C2
    rw [g0, ge 1 (by omega) (by omega), ge 2 (by omega) (by omega), ge 19 (by omega) (by omega)]
    exact ⟨up_same _ _ _, (up_ne _ _ (by decide)).trans (up_same _ _ _), (up_ne _ _ (by decide)).trans ((up_ne _ _ (by decide)).trans y3), (up_ne _ _ (by decide)).trans ((up_ne _ _ (by decide)).trans y4), (up_ne _ _ (by decide)).trans ((up_ne _ _ (by decide)).trans y5), (up_ne _ _ (by decide)).trans ((up_ne _ _ (by decide)).trans y6), fun i hi => absurd hi (Nat.not_lt_zero i), y8, y9⟩
  · exact ⟨by show 0 ≤ 200; omega, z2, z3, z4, z5, z6, z7, fun i hi => absurd hi (Nat.not_lt_zero i)⟩
/-- what reading leaves of an expression that is one -/
def RdOK (σ' : AH) (ad : Nat → Nat) (t : Nat → Int32) (tl : Nat) : RS → Prop
  | .inl e => e ≤ 200
  | .inr x => tkd t tl x.1 = 11 → gi σ' (ad 10) 2 = nI x.2.length ∧ x.2.length ≤ 200 ∧ ∀ j s, x.2[j]? = some s → gi σ' (ad 11) j = nI (ckS s) ∧ gi σ' (ad 12) j = nI (cvS s)
theorem read_R {R0 : RS} (R : RepC Γ σ own ad S c w) (H : CN Γ MX6_readSum (dS 0) (ad 10) (ad 1) (ad 3) (ad 11) (ad 12) (sT S) (sTL S) (okv S) (skp (sT S) (sTL S) 0) [.ref (ad 10), .int (nI 0)] R0) (hd : 112 ≤ d) : RI Γ d MX6_read [.ref (ad 10), .ref (ad 1), .int (nI (sTL S)), .ref (ad 3)] σ (fun r σ' => r = rdA S R0 ∧ RepC Γ σ' own ad S c w ∧ FR (RD3 ad) σ σ' ∧ hc σ' = hc σ ∧ hv σ' = hv σ ∧ RdOK σ' ad (sT S) (sTL S) R0) := by
  refine RUN.wf (fun W => ?_)
  have R' := R
  obtain ⟨O, x1, x2, x3, x4, x5, x6, x7, x8, x9⟩ := R'
  have tl2 := x9.1
  have n1 : ad 1 ≠ ad 10 := O.ne (by omega) (by omega) (by omega)
  have n3 : ad 3 ≠ ad 10 := O.ne (by omega) (by omega) (by omega)
  have n11 : ad 11 ≠ ad 10 := O.ne (by omega) (by omega) (by omega)
  have n12 : ad 12 ≠ ad 10 := O.ne (by omega) (by omega) (by omega)
  have nkv : ad 11 ≠ ad 12 := O.ne (by omega) (by omega) (by omega)
  have h1 : hs σ (ad 1) = some (20, 200) := x1.2.2.2.2.2.2.2.2.2.2.2.2.1
  have h3 : hs σ (ad 3) = some (25, 200) := x1.2.2.2.2.2.2.2.2.2.2.2.2.2.2.1
  refine eX6_read ⟨x3.1, fun σ2 e2 => ⟨200, by rw [e2]; exact h1, by omega, fun σ8 e8 σ12 e12 σ16 e16 σ20 e20 σ24 e24 => ?_⟩⟩
  have em : (if (nI 200) < nI (sTL S) then (nI 200) else nI (sTL S)) = nI (sTL S) := if_neg (fun y => absurd ((nI_ltI (by omega) (by omega)).mp y) (by omega))
  rw [em] at e8
  have hs24 : hs σ24 = hs σ := by rw [e24, e20, e16, e12, e8, e2]; rfl
  have hc24 : hc σ24 = hc σ := by rw [e24, e20, e16, e12, e8, e2]; rfl
  have hv24 : hv σ24 = hv σ := by rw [e24, e20, e16, e12, e8, e2]; rfl
  have gj24 : gj σ24 = gj σ := by rw [e24, e20, e16, e12, e8, e2]; rfl
  have F24 : FR (fun a => a = ad 10) σ σ24 := by
    rw [e24, e20, e16, e12, e8, e2]
    exact ((((((FR.setR (P := fun a => a = ad 10) _ _ _ rfl).trans (FR.setI _ _ _ rfl)).trans (FR.setR (P := fun a => a = ad 10) _ _ _ rfl)).trans (FR.setI _ _ _ rfl)).trans (FR.setI _ _ _ rfl)).trans (FR.setI _ _ _ rfl))
  have gr2 : gr σ2 (ad 10) = up (gr σ (ad 10)) 3 (some (ad 1)) := by rw [e2]; exact up_same _ _ _
  have gr24 : gr σ24 (ad 10) = up (up (gr σ (ad 10)) 3 (some (ad 1))) 5 (some (ad 3)) := by
    have : gr σ24 = gr σ12 := by rw [e24, e20, e16]; rfl
    rw [this, e12]
    refine (up_same _ _ _).trans ?_
    have : gr σ8 (ad 10) = gr σ2 (ad 10) := by rw [e8]; rfl
    rw [this, gr2]
  have gi8 : gi σ8 (ad 10) = up (gi σ (ad 10)) 4 (nI (sTL S)) := by rw [e8]; exact (up_same _ _ _).trans (by rw [e2]; rfl)
  have gi16 : gi σ16 (ad 10) = up (up (gi σ (ad 10)) 4 (nI (sTL S))) 2 0 := by rw [e16]; exact (up_same _ _ _).trans (by rw [show gi σ12 (ad 10) = gi σ8 (ad 10) by rw [e12]; rfl, gi8])
  have gi24 : gi σ24 (ad 10) = up (up (up (up (gi σ (ad 10)) 4 (nI (sTL S))) 2 0) 8 0) 9 (-1) := by
    rw [e24]
    refine (up_same _ _ _).trans ?_
    rw [e20, show gi (setI σ16 (ad 10) 8 0) (ad 10) = up (gi σ16 (ad 10)) 8 0 from up_same _ _ _, gi16]
  have W24 : WF Γ σ24 := W.upd x3.1 (by decide) hc24 hs24 (fun _ _ => by rw [gj24])
  have C : CRs σ24 (ad 10) (ad 1) (ad 3) (ad 11) (ad 12) (sT S) (sTL S) (okv S) := by
    unfold CRs
    rw [hs24, gr24]
    refine ⟨x3.1, (up_ne _ _ (by decide)).trans ((up_ne _ _ (by decide)).trans x3.2.1), (up_ne _ _ (by decide)).trans ((up_ne _ _ (by decide)).trans x3.2.2.1), (up_ne _ _ (by decide)).trans (up_same _ _ _), up_same _ _ _, x3.2.2.2.1, x3.2.2.2.2, nkv, h1, h3, tl2, fun i hi => by rw [F24.gi n1]; exact x2.2.2.2.2.2.2.1 i hi, fun i hi => ?_⟩
    rw [F24.gr n3]
    constructor
    · intro z
      cases q : okv S i
      · rfl
      · obtain ⟨fo, row, k, q1, -⟩ := (x6 i hi).2 q
        rw [z] at q1; exact absurd q1 (by simp)
    · exact (x6 i hi).1
  have B : CB σ24 (ad 10) (ad 11) (ad 12) (sTL S) [] none := by
    unfold CB
    rw [gi24]
    exact ⟨(up_ne _ _ (by decide)).trans ((up_ne _ _ (by decide)).trans ((up_ne _ _ (by decide)).trans (up_same _ _ _))), (up_ne _ _ (by decide)).trans ((up_ne _ _ (by decide)).trans (up_same _ _ _)), up_same _ _ _, by simp, fun j s h => absurd h (by simp), fun x h => absurd h (by simp)⟩
  refine CV.of (d2 := 2) (advance_R (q := 0) C B (by rw [gi24]; exact (up_ne _ _ (by decide)).trans (up_same _ _ _)) (Nat.zero_le _) (by omega)) (by omega) (fun σ28 W28 y => ?_)
  obtain ⟨ch, T⟩ := y
  have C28 := C.chg ch
  have fr : ∀ {τ : AH}, Chg (cI (ad 10) (ad 11) (ad 12)) nJ σ24 τ → FR (RD3 ad) σ τ := fun h => (F24.mono (fun a h => Or.inl h)).trans (FR.chg h (fun a h => h) (fun a h => h.elim))
  refine ⟨C28.1, CV.of (d2 := 110) (H σ28 [] 110 C28 T (Nat.zero_le _) (by unfold dS dF; omega)) (by omega) (fun σ30 W30 y => ?_)⟩
  obtain ⟨ch2, y⟩ := y
  have C30 := C28.chg ch2
  have ch3 := ch.trans ch2
  have fin : ∀ τ, Chg (cI (ad 10) (ad 11) (ad 12)) nJ σ24 τ → CRs τ (ad 10) (ad 1) (ad 3) (ad 11) (ad 12) (sT S) (sTL S) (okv S) → RepC Γ τ own ad S c w ∧ FR (RD3 ad) σ τ ∧ hc τ = hc σ ∧ hv τ = hv σ := by
    intro τ h Ct
    have hcτ : hc τ = hc σ := by rw [h.1, hc24]
    have hvτ : hv τ = hv σ := by rw [h.2.1, hv24]
    exact ⟨R.rd W (fr h) ⟨Ct.1, Ct.2.1, Ct.2.2.1, Ct.2.2.2.2.2.1, Ct.2.2.2.2.2.2.1⟩ hcτ, fr h, hcτ, hvτ⟩
  cases R0 with
  | inl e =>
    obtain ⟨p', pr', T2⟩ := y
    have tE := T2.2.2.2.2.2.1
    obtain ⟨r1, r2, r3, r4⟩ := fin σ30 ch3 C30
    refine ⟨C30.1, fun _ => ⟨_, rfl, tE, r1, r2, r3, r4, T2.2.2.2.2.2.2.2.2.2.2 e rfl⟩, fun _ => ?_⟩
    refine CV.of (d2 := 1) (rfail_R C30 T2) (by omega) (fun σ35 W35 y => ?_)
    obtain ⟨ch4, T3⟩ := y
    obtain ⟨r1, r2, r3, r4⟩ := fin σ35 (ch3.trans ch4) (C30.chg ch4)
    exact ⟨(C30.chg ch4).1, _, rfl, T3.2.2.2.2.2.1, r1, r2, r3, r4, T2.2.2.2.2.2.2.2.2.2.2 e rfl⟩
  | inr x =>
    have T2 : CT σ30 (ad 10) (ad 11) (ad 12) (sT S) (sTL S) x.1 ([] ++ x.2) none := y
    rw [List.nil_append] at T2
    have tok := T2.2.2.2.1
    refine ⟨C30.1, fun z => ?_, fun z => ?_⟩
    · rw [tok] at z
      obtain ⟨r1, r2, r3, r4⟩ := fin σ30 ch3 C30
      refine ⟨_, rfl, ?_, r1, r2, r3, r4, fun _ => ⟨T2.2.2.2.2.1, T2.2.2.2.2.2.2.1, T2.2.2.2.2.2.2.2.1⟩⟩
      rw [T2.2.2.2.2.2.1]
      exact (if_pos z).symm
    · rw [tok] at z
      refine CV.of (d2 := 1) (rfail_R C30 T2) (by omega) (fun σ35 W35 y => ?_)
      obtain ⟨ch4, T3⟩ := y
      obtain ⟨r1, r2, r3, r4⟩ := fin σ35 (ch3.trans ch4) (C30.chg ch4)
      refine ⟨(C30.chg ch4).1, _, rfl, ?_, r1, r2, r3, r4, fun y => absurd y z⟩
      rw [T3.2.2.2.2.2.1]
      exact (if_neg z).symm
theorem IN.cw {a b : Nat} (O : OWc own ad b) (h : IN ad a) : CW (own a) := IE.cw O (Or.inl h)
theorem RD3.cw {a b : Nat} (O : OWc own ad b) (h : RD3 ad a) : CW (own a) := by
  unfold CW
  rcases h with z | z | z
  · rw [z, (O 10 (by omega)).1]; omega
  · rw [z, (O 11 (by omega)).1]; omega
  · rw [z, (O 12 (by omega)).1]; omega
theorem StepC.pre2 {τ σ' : AH} {S' : StT} (F : FR (RP CW own (lo Γ + hc σ)) σ τ) (h1 : hc τ = hc σ) (h2 : hv τ = hv σ) (h : StepC Γ τ own ad c w S' σ') : StepC Γ σ own ad c w S' σ' := by
  obtain ⟨own', c', w', R, ag, F2, a, b, e⟩ := h
  rw [h1] at ag F2 a
  rw [h2] at b
  exact ⟨own', c', w', R, ag, F.trans F2, a, b, e⟩
theorem cW.cw {r : Nat} (h : cW r) : CW r := by unfold cW at h; unfold CW; omega
/-- a program run, and its family added -/
theorem run_part {pr : List Nat} (R : RepC Γ σ own ad S c w) (W : WF Γ σ) (hn : sN S < 200) (hl : pr.length ≤ 200) (r5 : gi σ (ad 10) 2 = nI pr.length) (r6 : ∀ j s, pr[j]? = some s → gi σ (ad 11) j = nI (ckS s) ∧ gi σ (ad 12) j = nI (cvS s)) (hok : okS 43 pr 0 1) (hst : ∀ s, s ∈ pr → okStep (sN S) (sR S) s) {K : Option Nat → AH → Prop} {KX : String → AH → Prop} (hd : 20 ≤ d) (k0 : exe (sF S) pr 0 (fun _ => zf) = none → ∀ τ, StepC Γ σ own ad c w S (thr τ) → K none τ) (k1 : ∀ S1, exe (sF S) pr 0 (fun _ => zf) = some S1 → ∀ τ t, WF Γ τ → (∀ (K2 : Int32 → AH → Prop) (KX2 : String → AH → Prop), (∀ σ', StepC Γ σ own ad c w (stA S (S1 0)) σ' → K2 (nI (sN S)) σ') → CR Γ d MJ7_copyOf_c38d5 [.ref t, .int 64] τ (fun r36 σ35 => hs σ35 (ad 0) = some (6, 17) ∧ CI Γ d MX8_addFamily [.ref (ad 0), .ref r36] σ35 K2 KX2) (fun _ _ => False)) → K (some t) τ) : CQ Γ d MX1_run [.ref (ad 13), .ref (ad 10), .ref (ad 3), .ref (ad 6)] σ K KX := by
  have R' := R
  obtain ⟨O, x1, x2, x3, x4, x5, x6, x7, x8, x9⟩ := R'
  obtain ⟨dp, hdp, edp⟩ := wb_of32 (gi σ (ad 13) 1)
  have I : CRI (lo Γ + hc σ) σ own (ad 6) (ad 4) (ad 5) (ad 7) (ad 8) (ad 13) (ad 14) σ own dp 0 (fun _ => zf) :=
    ⟨x1.alg, x5, FR.refl _ _, fun _ _ => rfl, ⟨(O 4 (by omega)).1, (O 5 (by omega)).1, (O 7 (by omega)).1, (O 8 (by omega)).1, (O 13 (by omega)).1, (O 14 (by omega)).1, (O 7 (by omega)).2, (O 8 (by omega)).2, (O 6 (by omega)).1, (O 6 (by omega)).2, (O 13 (by omega)).2, (O 14 (by omega)).2, (O 4 (by omega)).2, (O 5 (by omega)).2⟩, edp, fun k hk => absurd hk (Nat.not_lt_zero k), rfl, rfl⟩
  have G : FamH (lo Γ + hc σ) σ own (ad 3) (okf (sN S) (sR S)) (sF S) := by
    refine ⟨x1.2.2.2.2.2.2.2.2.2.2.2.2.2.2.1, (O 3 (by omega)).1, (O 3 (by omega)).2, fun f hf hk => ?_⟩
    obtain ⟨fo, row, k, q1, q2, q3, q4, q5, q6, q7, q8, q9, q10, q11, q12, q13⟩ := (x6 f hf).2 hk
    exact ⟨fo, row, q1, q2, q3, q4, q5, q10, q11, q12, q13⟩
  refine CQ.of (d2 := 12) (crun_R rfl I G x9.2.2.1 x3.1 x3.2.1 x3.2.2.1 x3.2.2.2.1 x3.2.2.2.2 (O 10 (by omega)).1 (O 11 (by omega)).1 (O 12 (by omega)).1 (O 10 (by omega)).2 (O 11 (by omega)).2 (O 12 (by omega)).2 r5 hl r6 hok hst (by omega)) (by omega) (fun r τ Wτ y => ?_)
  obtain ⟨own', dp', h', S', I', X⟩ := y
  obtain ⟨i0, i1, i2, i3, i4, i5, i6, i7, i8⟩ := I'
  have Rτ := R.calc W i2 i0 i1 i3
  have Fτ : FR (RP CW own (lo Γ + hc σ)) σ τ := i2.mono (fun a h => h.imp (fun z => z.cw) id)
  cases hX : exe (sF S) pr 0 (fun _ => zf) with
  | none =>
    rw [hX] at X
    have X : r = none := X
    rw [X]
    refine k0 hX τ ⟨own', c, _, Rτ.keep Wτ (W := SW) (FR.thr _ _) (fun r h => Or.inl h) (fun _ _ _ => rfl), i3, Fτ.trans (FR.thr _ _), by rw [hc_thr]; omega, by rw [hv_thr]; omega, Nat.le_refl _⟩
  | some S1 =>
    rw [hX] at X
    obtain ⟨t, e1, e2, e3⟩ := X
    rw [e1]
    refine k1 S1 hX τ t Wτ (fun K2 KX2 kk => ?_)
    refine WQ.copy Rτ Wτ e2 (by omega) (fun q τ2 W2 H => ?_)
    rw [e3] at H
    obtain ⟨H1, H2, H3, H4, H5, H6, H7⟩ := H
    have le := i2.1
    refine ⟨H1.x0, add_call (w := w) H1 (fun a ha => ?_) (Fτ.trans (H2.mono (fun a ha => ?_))) H3 (up_same _ _ _) (by omega) hn (by omega) (by omega) (by omega) (fun σ' st => kk σ' (by rw [H4] at st; exact st))⟩
    · rw [up_ne _ _ (by omega)]; exact i3 a ha
    · rcases ha with z | z
      · rcases Nat.lt_or_ge a (lo Γ + hc σ) with y | y
        · exact Or.inl (by rw [← i3 a y]; exact z.cw)
        · exact Or.inr y
      · exact Or.inr (by omega)
end EVL
