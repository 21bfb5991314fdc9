/-! ROWS of FamilyStore: text, costs, counts. -/
/-- the byte of an int that stands s bits up -/
def byt (v : Int32) (s : Nat) : Int32 := Int8.toInt32 (Int32.toInt8 ((v.toUInt32 >>> ((nI s).toUInt32 &&& Int32.toUInt32 31)).toInt32))
theorem nar_byte (x : Int32) : vp_nar .byte (Int8.toInt32 (Int32.toInt8 x)) = Int8.toInt32 (Int32.toInt8 x) := by
  show Int8.toInt32 (Int32.toInt8 (Int8.toInt32 (Int32.toInt8 x))) = _
  exact fb_byte (fb_byte_rng x).1 (fb_byte_rng x).2
theorem by8_i (x : Int32) : by8 (Int8.toInt32 (Int32.toInt8 x)) := by
  obtain ⟨n, hn, rfl⟩ := wb_of32 x
  refine ⟨n % 256, Nat.mod_lt _ (by decide), ?_⟩
  have e : (nI n &&& 255) = nI (n % 256) := fa_mask n 8
  rw [← e, fa_byte_low]
theorem byt_sh (v : Int32) {s : Nat} (hs' : s ≤ 24) : Int8.toInt32 (Int32.toInt8 (v >>> (nI s &&& 31))) = byt v s := by
  unfold byt
  rw [← fa_byte_low (v >>> (nI s &&& 31)), ← fa_byte_low ((v.toUInt32 >>> ((nI s).toUInt32 &&& Int32.toUInt32 31)).toInt32)]
  congr 2
  refine b_ext (fun i hi => ?_)
  rw [b_and, b_and, b_sshr s (by omega) v hi, b_ushr s (by omega) v i]
  rcases Nat.lt_or_ge i 8 with h | h
  · rw [if_pos (by omega)]
  · have : ∀ i, i < 32 → 8 ≤ i → bt 255 i = false := by decide +kernel
    rw [this i hi h, Bool.and_false, Bool.and_false]
def ap4 (t : Nat → Int32) (n : Nat) (v : Int32) : Nat → Int32 := up (up (up (up t n (byt v 24)) (n + 1) (byt v 16)) (n + 2) (byt v 8)) (n + 3) (byt v 0)
def aFeed (S : StT) (a b c d e : Int32) : AnsT := if 180 < sTL S then (1, 0, S) else (0, nI (sTL S + 20), stT S (ap4 (ap4 (ap4 (ap4 (ap4 (sT S) (sTL S) a) (sTL S + 4) b) (sTL S + 8) c) (sTL S + 12) d) (sTL S + 16) e) (sTL S + 20))
def aTrim (S : StT) (n : Int32) : AnsT := if n < 0 ∨ ¬ n ≤ nI (sTL S) then (1, 0, S) else (0, n, stT S (sT S) (ixF n))
def aOut (S : StT) (i : Int32) : AnsT := if i < 0 ∨ nI (sOL S) ≤ i then (1, 0, S) else (0, sO S (ixF i), S)
noncomputable def aSetC (S : StT) (e v : Int32) : AnsT := if bd (isE e) = false then (1, 0, S) else if v < -1000 ∨ ¬ v ≤ 1000 then (2, 0, S) else (0, sK S (ixF e), stC S (ixF e) v)
noncomputable def vNodeAll (S : StT) : Int32 := nI (cardV (fun g => ∃ f, okv S f = true ∧ NP (sF S f) g))
section TX
variable {Γ : Gm} {d : Nat} {σ : AH} {own ad : Nat → Nat} {S : StT} {c w : Nat}
theorem RepC.ints {σ' : AH} {S' : StT} (R : RepC Γ σ own ad S c w) (W : WF Γ σ) (F : FR (fun a => a = ad 0 ∨ a = ad 1 ∨ a = ad 2 ∨ a = ad 19) σ σ') (hg : gr σ' = gr σ) (hh : hc σ' = hc σ) (C : C2 σ' ad S') (V : WS S') (e1 : sN S' = sN S) (e2 : sR S' = sR S) (e3 : sF S' = sF S) (e4 : sK S' = sK S) : RepC Γ σ' own ad S' c w := by
  obtain ⟨O, x1, x2, x3, x4, x5, x6, x7, x8, x9⟩ := R
  have hb : ∀ a x, hs σ a = some x → a < lo Γ + hc σ := W.1
  have no : ∀ i, i < 20 → i ≠ 0 → i ≠ 1 → i ≠ 2 → i ≠ 19 → ¬ (ad i = ad 0 ∨ ad i = ad 1 ∨ ad i = ad 2 ∨ ad i = ad 19) := fun i hi h0 h1 h2 h3 z => by
    rcases z with z | z | z | z
    · exact O.ne hi (by omega) h0 z
    · exact O.ne hi (by omega) h1 z
    · exact O.ne hi (by omega) h2 z
    · exact O.ne hi (by omega) h3 z
  have nr : ∀ a, (21 ≤ own a ∧ own a ≤ 26) → ¬ (a = ad 0 ∨ a = ad 1 ∨ a = ad 2 ∨ a = ad 19) := fun a h z => by
    rcases z with z | z | z | z
    · rw [z, (O 0 (by omega)).1] at h; omega
    · rw [z, (O 1 (by omega)).1] at h; omega
    · rw [z, (O 2 (by omega)).1] at h; omega
    · rw [z, (O 19 (by omega)).1] at h; omega
  have eo : okv S' = okv S := by unfold okv; rw [e1, e2]
  refine ⟨by rw [hh]; exact O, ?_, C, x3.fr F (no 10 (by omega) (by omega) (by omega) (by omega) (by omega)), ?_, x5.fr F (no 13 (by omega) (by omega) (by omega) (by omega) (by omega)) (no 14 (by omega) (by omega) (by omega) (by omega) (by omega)) (fun _ _ _ => rfl) hb, ?_, ?_, by unfold nnr; rw [hg]; exact x8, V⟩
  · obtain ⟨z0, z1, z2, z3, z4, z5, z6, z7, z8, z9, z10, z11, z12, z13, z14, z15, z16⟩ := x1
    refine ⟨F.gh z0, ?_, ?_, ?_, ?_, ?_, ?_, ?_, ?_, ?_, ?_, ?_, F.gh z12, F.gh z13, F.gh z14, F.gh z15, z16.fr F (no 6 (by omega) (by omega) (by omega) (by omega) (by omega))⟩
    all_goals rw [hg]; assumption
  · rw [e4]
    exact x4.fr F (no 15 (by omega) (by omega) (by omega) (by omega) (by omega)) (no 16 (by omega) (by omega) (by omega) (by omega) (by omega)) (no 17 (by omega) (by omega) (by omega) (by omega) (by omega)) (no 18 (by omega) (by omega) (by omega) (by omega) (by omega))
  · have := x6.fr (b' := lo Γ + hc σ') (own' := own) F (no 3 (by omega) (by omega) (by omega) (by omega) (by omega)) (fun a _ h => nr a (by omega)) (fun _ _ _ => rfl) (by omega)
    unfold C6 at *
    rw [eo, e3]; exact this
  · have := x7.fr (own' := own) F (no 9 (by omega) (by omega) (by omega) (by omega) (by omega)) (fun a _ h => nr a (by omega)) (fun _ _ _ => rfl) hb
    unfold C7 at *
    rw [eo, e3, e1, e2]; exact this
theorem StepC.ints {σ' : AH} {S' : StT} (R : RepC Γ σ own ad S c w) (R' : RepC Γ σ' own ad S' c w) (F : FR (fun a => a = ad 0 ∨ a = ad 1 ∨ a = ad 2 ∨ a = ad 19) σ σ') (h1 : hc σ' = hc σ) (h2 : hv σ' = hv σ) : StepC Γ σ own ad c w S' σ' :=
  ⟨own, c, w, R', fun _ _ => rfl, F.mono (fun a ha => Or.inl (by
    unfold CW
    rcases ha with z | z | z | z
    · rw [z, (R.1 0 (by omega)).1]; omega
    · rw [z, (R.1 1 (by omega)).1]; omega
    · rw [z, (R.1 2 (by omega)).1]; omega
    · rw [z, (R.1 19 (by omega)).1]; omega)), by omega, by omega, Nat.le_refl _⟩
theorem StepC.pre {τ σ' : AH} {S' : StT} (F : FR (RP SW own (lo Γ + hc σ)) σ τ) (h1 : hc τ = hc σ) (h2 : hv τ = hv σ) (h : StepC Γ τ own ad c w S' σ') : StepC Γ σ own ad c w S' σ' := by
  obtain ⟨own', c', w', R, ag, F2, a, b, e⟩ := h
  rw [h1] at ag F2 a
  rw [h2] at b
  exact ⟨own', c', w', R, ag, (F.cw (fun r z => z.cw)).trans F2, a, b, e⟩
theorem RepC.byte {x : Int32} (R : RepC Γ σ own ad S c w) (W : WF Γ σ) (hl : sTL S < 200) (hx : by8 x) : RepC Γ (setI (setI σ (ad 1) (sTL S) x) (ad 0) 1 (nI (sTL S + 1))) own ad (stT S (up (sT S) (sTL S) x) (sTL S + 1)) c w ∧ FR (fun a => a = ad 0 ∨ a = ad 1 ∨ a = ad 2 ∨ a = ad 19) σ (setI (setI σ (ad 1) (sTL S) x) (ad 0) 1 (nI (sTL S + 1))) := by
  have F : FR (fun a => a = ad 0 ∨ a = ad 1 ∨ a = ad 2 ∨ a = ad 19) σ (setI (setI σ (ad 1) (sTL S) x) (ad 0) 1 (nI (sTL S + 1))) := (FR.setI σ _ _ (Or.inr (Or.inl rfl))).trans (FR.setI _ _ _ (Or.inl rfl))
  have n10 : ad 0 ≠ ad 1 := R.1.ne (by omega) (by omega) (by omega)
  have n20 : ad 2 ≠ ad 0 := R.1.ne (by omega) (by omega) (by omega)
  have n21 : ad 2 ≠ ad 1 := R.1.ne (by omega) (by omega) (by omega)
  have n90 : ad 19 ≠ ad 0 := R.1.ne (by omega) (by omega) (by omega)
  have n91 : ad 19 ≠ ad 1 := R.1.ne (by omega) (by omega) (by omega)
  have g0 : gi (setI (setI σ (ad 1) (sTL S) x) (ad 0) 1 (nI (sTL S + 1))) (ad 0) = up (gi σ (ad 0)) 1 (nI (sTL S + 1)) := (up_same _ _ _).trans (by rw [show gi (setI σ (ad 1) (sTL S) x) (ad 0) = gi σ (ad 0) from up_ne _ _ n10])
  have g1 : gi (setI (setI σ (ad 1) (sTL S) x) (ad 0) 1 (nI (sTL S + 1))) (ad 1) = up (gi σ (ad 1)) (sTL S) x := (up_ne _ _ n10.symm).trans (up_same _ _ _)
  have g2 : gi (setI (setI σ (ad 1) (sTL S) x) (ad 0) 1 (nI (sTL S + 1))) (ad 2) = gi σ (ad 2) := (up_ne _ _ n20).trans (up_ne _ _ n21)
  have g3 : gi (setI (setI σ (ad 1) (sTL S) x) (ad 0) 1 (nI (sTL S + 1))) (ad 19) = gi σ (ad 19) := (up_ne _ _ n90).trans (up_ne _ _ n91)
  have R' := R
  obtain ⟨O, x1, ⟨y1, y2, y3, y4, y5, y6, y7, y8, y9⟩, x3, x4, x5, x6, x7, x8, ⟨z1, z2, z3, z4, z5, z6, z7, z8⟩⟩ := R'
  refine ⟨R.ints W F rfl rfl ?_ ?_ rfl rfl rfl rfl, F⟩
  · unfold C2
    rw [g0, g1, g2, g3]
    refine ⟨up_same _ _ _, (up_ne _ _ (by decide)).trans y2, (up_ne _ _ (by decide)).trans y3, (up_ne _ _ (by decide)).trans y4, (up_ne _ _ (by decide)).trans y5, (up_ne _ _ (by decide)).trans y6, fun i hi => ?_, y8, y9⟩
    have hi : i < sTL S + 1 := hi
    show up (gi σ (ad 1)) (sTL S) x i = up (sT S) (sTL S) x i
    by_cases e : i = sTL S
    · rw [e, up_same, up_same]
    · rw [up_ne _ _ e, up_ne _ _ e]; exact y7 i (by omega)
  · refine ⟨by show sTL S + 1 ≤ 200; omega, z2, z3, z4, z5, z6, z7, fun i hi => ?_⟩
    have hi : i < sTL S + 1 := hi
    show by8 (up (sT S) (sTL S) x i)
    by_cases e : i = sTL S
    · rw [e, up_same]; exact hx
    · rw [up_ne _ _ e]; exact z8 i (by omega)
/-- one step of a feed -/
theorem ab_step {v : Int32} {Q : Oc → AH → Prop} {s : Nat} {s2 : Int32} (R : RepC Γ σ own ad S c w) (W : WF Γ σ) (hl : sTL S < 200) (hs' : s ≤ 24) (e2 : nI s + (-8) = s2) (k : ∀ σ', WF Γ σ' → RepC Γ σ' own ad (stT S (up (sT S) (sTL S) (byt v s)) (sTL S + 1)) c w → FR (fun a => a = ad 0 ∨ a = ad 1 ∨ a = ad 2 ∨ a = ad 19) σ σ' → hc σ' = hc σ → hv σ' = hv σ → EV Γ MX8_appendBytes d 3 [some (.ref (ad 0)), some (.int v), some (.int s2)] [] σ' Q) : EV Γ MX8_appendBytes d 3 [some (.ref (ad 0)), some (.int v), some (.int (nI s))] [] σ Q := by
  have x1 := R.2.1
  have y1 : gi σ (ad 0) 1 = nI (sTL S) := R.2.2.1.1
  refine gX8_appendBytes_3 ⟨fun z => absurd z (nI_pos (by omega)), fun _ => ⟨R.x0, fun z => ?_, fun _ => ⟨ad 1, x1.2.1, 200, x1.2.2.2.2.2.2.2.2.2.2.2.2.1, sTL S, ?_, ?_⟩⟩⟩
  · rw [y1] at z
    exact absurd ((nI_leI (a := 200) (by omega) (by omega)).mp z) (by omega)
  · rw [y1]; exact IXn (by omega) (by omega)
  · intro σ10 e10 σ15 e15
    have n10 : ad 0 ≠ ad 1 := R.1.ne (by omega) (by omega) (by omega)
    have g1 : gi σ10 (ad 0) 1 = nI (sTL S) := by rw [e10]; exact (congrFun (up_ne _ _ n10) _).trans y1
    rw [g1, nI_1] at e15
    have h := R.byte W hl (by8_i ((v.toUInt32 >>> ((nI s).toUInt32 &&& Int32.toUInt32 31)).toInt32))
    rw [nar_byte] at e10
    rw [← e10, ← e15] at h
    rw [e2]
    have W15 : WF Γ σ15 := by
      rw [e15, e10]
      have W10 : WF Γ (setI σ (ad 1) (sTL S) (byt v s)) := W.upd x1.2.2.2.2.2.2.2.2.2.2.2.2.1 (by decide) rfl rfl (fun _ _ => rfl)
      exact W10.upd R.x0 (by decide) rfl rfl (fun _ _ => rfl)
    exact k σ15 W15 h.1 h.2 (by rw [e15, e10]; rfl) (by rw [e15, e10]; rfl)
theorem ab_R {v : Int32} (R : RepC Γ σ own ad S c w) (hl : sTL S + 4 ≤ 200) : RV Γ d MX8_appendBytes [.ref (ad 0), .int v] σ (fun σ' => RepC Γ σ' own ad (stT S (ap4 (sT S) (sTL S) v) (sTL S + 4)) c w ∧ FR (fun a => a = ad 0 ∨ a = ad 1 ∨ a = ad 2 ∨ a = ad 19) σ σ' ∧ hc σ' = hc σ ∧ hv σ' = hv σ) := by
  refine RUN.wf (fun W => eX8_appendBytes (ab_step (s := 24) R W (by omega) (by omega) (s2 := nI 16) (by decide) (fun σ1 W1 R1 F1 c1 v1 => ?_)))
  refine ab_step (s := 16) R1 W1 (by show sTL S + 1 < 200; omega) (by omega) (s2 := nI 8) (by decide) (fun σ2 W2 R2 F2 c2 v2 => ?_)
  refine ab_step (s := 8) R2 W2 (by show sTL S + 1 + 1 < 200; omega) (by omega) (s2 := nI 0) (by decide) (fun σ3 W3 R3 F3 c3 v3 => ?_)
  refine ab_step (s := 0) R3 W3 (by show sTL S + 1 + 1 + 1 < 200; omega) (by omega) (s2 := -8) (by decide) (fun σ4 W4 R4 F4 c4 v4 => ?_)
  exact gX8_appendBytes_3 ⟨fun _ => ⟨rfl, R4, ((F1.trans F2).trans F3).trans F4, by omega, by omega⟩, fun z => absurd (by decide) z⟩
theorem feed_R {a b c' d' e : Int32} (R : RepC Γ σ own ad S c w) (hd : 7 ≤ d) : CLM Γ d MX8_feed [.ref (ad 0), .int a, .int b, .int c', .int d', .int e] σ own ad c w [ISE] (aFeed S a b c' d' e) := by
  refine RUN.wf (fun W => eX8_feed ⟨R.x0, fun z => ?_, fun z => ?_⟩)
  · rw [R.2.2.1.1, show nI (sTL S) + 20 = nI (sTL S + 20) from nI_add _ 20] at z
    have := R.lt.1
    have z := (nI_leI (b := 200) (by omega) (by omega)).mp z
    have hA : aFeed S a b c' d' e = (0, nI (sTL S + 20), stT S (ap4 (ap4 (ap4 (ap4 (ap4 (sT S) (sTL S) a) (sTL S + 4) b) (sTL S + 8) c') (sTL S + 12) d') (sTL S + 16) e) (sTL S + 20)) := if_neg (by omega)
    rw [hA]
    refine CV.of (d2 := 0) (ab_R R (by omega)) (by omega) (fun σ1 W1 h => ?_)
    obtain ⟨R1, F1, c1, v1⟩ := h
    refine ⟨R1.x0, CV.of (d2 := 0) (ab_R R1 (by show sTL S + 4 + 4 ≤ 200; omega)) (by omega) (fun σ2 W2 h => ?_)⟩
    obtain ⟨R2, F2, c2, v2⟩ := h
    refine ⟨R2.x0, CV.of (d2 := 0) (ab_R R2 (by show sTL S + 4 + 4 + 4 ≤ 200; omega)) (by omega) (fun σ3 W3 h => ?_)⟩
    obtain ⟨R3, F3, c3, v3⟩ := h
    refine ⟨R3.x0, CV.of (d2 := 0) (ab_R R3 (by show sTL S + 4 + 4 + 4 + 4 ≤ 200; omega)) (by omega) (fun σ4 W4 h => ?_)⟩
    obtain ⟨R4, F4, c4, v4⟩ := h
    refine ⟨R4.x0, CV.of (d2 := 0) (ab_R R4 (by show sTL S + 4 + 4 + 4 + 4 + 4 ≤ 200; omega)) (by omega) (fun σ5 W5 h => ?_)⟩
    obtain ⟨R5, F5, c5, v5⟩ := h
    refine ⟨R5.x0, ?_, StepC.ints R R5 ((((F1.trans F2).trans F3).trans F4).trans F5) (by omega) (by omega)⟩
    rw [R5.2.2.1.1]; rfl
  · rw [R.2.2.1.1, show nI (sTL S) + 20 = nI (sTL S + 20) from nI_add _ 20] at z
    have := R.lt.1
    have hA : aFeed S a b c' d' e = (1, 0, S) := if_pos (by
      rcases Nat.lt_or_ge 180 (sTL S) with y | y
      · exact y
      · exact absurd ((nI_leI (b := 200) (by omega) (by omega)).mpr (by omega)) z)
    rw [hA]; exact ⟨by omega, rfl, StepC.thr R W⟩
theorem trim_R {n : Int32} (R : RepC Γ σ own ad S c w) (hd : 7 ≤ d) : CLM Γ d MX8_trim [.ref (ad 0), .int n] σ own ad c w [IAE] (aTrim S n) := by
  refine RUN.wf (fun W => ?_)
  have y1 : gi σ (ad 0) 1 = nI (sTL S) := R.2.2.1.1
  have bad : (n < 0 ∨ ¬ n ≤ nI (sTL S)) → EV Γ MX8_trim d 12 [none, none] [] σ (fun oc σ' => ansO [IAE] (aTrim S n) oc ∧ StepC Γ σ own ad c w (aTrim S n).2.2 σ') := by
    intro h
    have hA : aTrim S n = (1, 0, S) := if_pos h
    rw [hA]; exact gX8_trim_12 ⟨by omega, rfl, StepC.thr R W⟩
  refine eX8_trim ⟨fun z => bad (Or.inl z), fun z1 => ⟨R.x0, ?_⟩⟩
  rw [y1]
  refine ⟨fun z2 σ4 e4 => ?_, fun z => bad (Or.inr z)⟩
  have hA : aTrim S n = (0, n, stT S (sT S) (ixF n)) := if_neg (fun y => y.elim z1 (fun y => y z2))
  rw [hA]
  obtain ⟨k, hk, rfl⟩ := nI_of z1
  have ek : ixF (nI k) = k := pk_tn (by omega)
  rw [ek]
  have t200 := R.lt.1
  have kl : k ≤ sTL S := (nI_leI (by omega) (by omega)).mp z2
  have F : FR (fun a => a = ad 0 ∨ a = ad 1 ∨ a = ad 2 ∨ a = ad 19) σ σ4 := by rw [e4]; exact FR.setI σ _ _ (Or.inl rfl)
  have R' := R
  obtain ⟨O, x1, ⟨y1, y2, y3, y4, y5, y6, y7, y8, y9⟩, x3, x4, x5, x6, x7, x8, ⟨q1, q2, q3, q4, q5, q6, q7, q8⟩⟩ := R'
  have ge : ∀ i, i < 20 → i ≠ 0 → gi σ4 (ad i) = gi σ (ad i) := fun i hi h => by rw [e4]; exact up_ne _ _ (O.ne hi (by omega) h)
  have g0 : gi σ4 (ad 0) = up (gi σ (ad 0)) 1 (nI k) := by rw [e4]; exact up_same _ _ _
  refine ⟨rfl, StepC.ints R (R.ints W F (by rw [e4]; rfl) (by rw [e4]; rfl) ?_ ?_ rfl rfl rfl rfl) F (by rw [e4]; rfl) (by rw [e4]; rfl)⟩
  · unfold C2
    rw [g0, ge 1 (by omega) (by omega), ge 2 (by omega) (by omega), ge 19 (by omega) (by omega)]
    exact ⟨up_same _ _ _, (up_ne _ _ (by decide)).trans y2, (up_ne _ _ (by decide)).trans y3, (up_ne _ _ (by decide)).trans y4, (up_ne _ _ (by decide)).trans y5, (up_ne _ _ (by decide)).trans y6, fun i hi => y7 i (Nat.lt_of_lt_of_le hi kl), y8, y9⟩
  · exact ⟨by show k ≤ 200; omega, q2, q3, q4, q5, q6, q7, fun i hi => q8 i (Nat.lt_of_lt_of_le hi kl)⟩
theorem outputByte_R {i : Int32} (R : RepC Γ σ own ad S c w) (hd : 7 ≤ d) : CLM Γ d MX8_outputByte [.ref (ad 0), .int i] σ own ad c w [IOB] (aOut S i) := by
  refine RUN.wf (fun W => ?_)
  have x1 := R.2.1
  have y3 : gi σ (ad 0) 4 = nI (sOL S) := R.2.2.1.2.2.1
  have l := R.lt.2.1
  have bad : (i < 0 ∨ nI (sOL S) ≤ i) → EV Γ MX8_outputByte d 19 [none, none] [] σ (fun oc σ' => ansO [IOB] (aOut S i) oc ∧ StepC Γ σ own ad c w (aOut S i).2.2 σ') := by
    intro h
    have hA : aOut S i = (1, 0, S) := if_pos h
    rw [hA]; exact gX8_outputByte_19 ⟨by omega, rfl, StepC.thr R W⟩
  refine eX8_outputByte ⟨fun z => bad (Or.inl z), fun z1 => ⟨R.x0, ?_⟩⟩
  rw [y3]
  refine ⟨fun z => bad (Or.inr z), fun z2 => ?_⟩
  have hA : aOut S i = (0, sO S (ixF i), S) := if_neg (fun y => y.elim z1 z2)
  rw [hA]
  obtain ⟨k, hk, rfl⟩ := nI_of z1
  have ek : ixF (nI k) = k := pk_tn (by omega)
  have kl : k < sOL S := by
    rcases Nat.lt_or_ge k (sOL S) with v | v
    · exact v
    · exact absurd ((nI_leI (by omega) hk).mpr v) z2
  refine ⟨fun _ => ⟨ad 2, x1.2.2.1, 1000, x1.2.2.2.2.2.2.2.2.2.2.2.2.2.1, k, IXn (by omega) (by omega), ?_, StepC.refl R W⟩, fun v => absurd ((nI_ltI (b := 1000) (by omega) (by omega)).mpr (by omega)) v⟩
  rw [R.2.2.1.2.2.2.2.2.2.2.1 k kl, ek]; rfl
theorem nodeCount_R (R : RepC Γ σ own ad S c w) : CLM Γ d MX8_nodeCount [.ref (ad 0)] σ own ad c w [] (0, vNodeAll S, S) := by
  refine RUN.wf (fun W => ?_)
  have R' := R
  obtain ⟨O, x1, x2, x3, x4, x5, x6, x7, x8, x9⟩ := R'
  obtain ⟨ke, us, me, pl, nx, K, den, cnt, v, V, o, y1, y2, y3, y4, y5⟩ := x7
  refine eX8_nodeCount ⟨R.x0, ad 9, x1.2.2.2.2.2.2.2.1, V.sh.2.2.2.2, ?_, StepC.refl R W⟩
  have e : gi σ (ad 9) 7 = nI (ctp (fun i => 2 ≤ i ∧ 0 < cnt i) nx) := V.2.2.2.2.2.2.2
  have T := V.2.2.1
  have n2 := x9.2.2.1
  have CN : cardN (fun g => ∃ f, okv S f = true ∧ NP (sF S f) g) (ctp (fun i => 2 ≤ i ∧ 0 < cnt i) nx) := by
    refine ⟨nx, den, T.2.2.2.1, fun g hg => ?_, ctp_congr (fun i hi => ?_)⟩
    · obtain ⟨f, h1, h2⟩ := hg
      exact y5 f g h1 h2
    · refine and_congr_right (fun h2 => ?_)
      rw [y1 i h2 hi]
      refine ctp_pos.trans ⟨fun ⟨x, _, z⟩ => ⟨x, z⟩, fun ⟨x, z⟩ => ⟨x, ?_, z⟩⟩
      have := (okf_t.mp z.1).1
      omega
  rw [e]
  show _ = Sum.inl (some (Value.int (nI (cardV _))))
  rw [cardV_eq CN]
end TX
