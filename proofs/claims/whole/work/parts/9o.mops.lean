/-! ROWS of the model: text, costs, release. -/
section MO
variable {Γ : Gm} {d : Nat} {σ : AH} {own mad : Nat → Nat} {S : StT} {c : Nat}
/-- one byte fed -/
theorem RepM.byte {x : Int32} (R : RepM Γ σ own mad S c) (hl : sTL S < 200) (hx : by8 x) : RepM Γ (setI (setI σ (mad 1) (sTL S) x) (mad 0) 2 (nI (sTL S + 1))) own mad (stT S (up (sT S) (sTL S) x) (sTL S + 1)) c ∧ FR (MDs mad) σ (setI (setI σ (mad 1) (sTL S) x) (mad 0) 2 (nI (sTL S + 1))) := by
  have F : FR (MDs mad) σ (setI (setI σ (mad 1) (sTL S) x) (mad 0) 2 (nI (sTL S + 1))) := (FR.setI σ _ _ ⟨1, by omega, rfl⟩).trans (FR.setI _ _ _ ⟨0, by omega, rfl⟩)
  have n01 : mad 0 ≠ mad 1 := R.ne (by omega) (by omega) (by omega)
  have g0 : gi (setI (setI σ (mad 1) (sTL S) x) (mad 0) 2 (nI (sTL S + 1))) (mad 0) = up (gi σ (mad 0)) 2 (nI (sTL S + 1)) := (up_same _ _ _).trans (by rw [show gi (setI σ (mad 1) (sTL S) x) (mad 0) = gi σ (mad 0) from up_ne _ _ n01])
  have g1 : gi (setI (setI σ (mad 1) (sTL S) x) (mad 0) 2 (nI (sTL S + 1))) (mad 1) = up (gi σ (mad 1)) (sTL S) x := (up_ne _ _ n01.symm).trans (up_same _ _ _)
  have gn : ∀ i, i < 12 → i ≠ 0 → i ≠ 1 → gi (setI (setI σ (mad 1) (sTL S) x) (mad 0) 2 (nI (sTL S + 1))) (mad i) = gi σ (mad i) := fun i hi h0 h1 => (up_ne _ _ (R.ne hi (by omega) h0)).trans (up_ne _ _ (R.ne hi (by omega) h1))
  have R' := R
  obtain ⟨O, x1, x2, ⟨y1, y2, y3, y4, y5, y6⟩, ⟨t1, t2, t3, t4, t5, t6⟩, x5, ⟨z1, z2, z3, z4, z5, z6, z7, z8⟩⟩ := R'
  refine ⟨R.ints F rfl rfl ?_ ?_ ?_, F⟩
  · unfold M3
    rw [g0]
    exact ⟨up_same _ _ _, (up_ne _ _ (by decide)).trans y2, (up_ne _ _ (by decide)).trans y3, (up_ne _ _ (by decide)).trans y4, (up_ne _ _ (by decide)).trans y5, (up_ne _ _ (by decide)).trans y6⟩
  · unfold M4
    rw [g1, gn 2 (by omega) (by omega) (by omega), gn 3 (by omega) (by omega) (by omega), gn 5 (by omega) (by omega) (by omega), gn 6 (by omega) (by omega) (by omega)]
    refine ⟨fun i hi => ?_, t2, t3, t4, t5, t6⟩
    have hi : i < sTL S + 1 := hi
    show up (gi σ (mad 1)) (sTL S) x i = up (sT S) (sTL S) x i
    by_cases e : i = sTL S
    · rw [e, up_same, up_same]
    · rw [up_ne _ _ e, up_ne _ _ e]; exact t1 i (by omega)
  · refine ⟨by show sTL S + 1 ≤ 200; omega, z2, z3, z4, z5, z6, z7, fun i hi => ?_⟩
    have hi : i < sTL S + 1 := hi
    show by8 (up (sT S) (sTL S) x i)
    by_cases e : i = sTL S
    · rw [e, up_same]; exact hx
    · rw [up_ne _ _ e]; exact z8 i (by omega)
theorem mab_step {v : Int32} {Q : Oc → AH → Prop} {s : Nat} {s2 : Int32} (R : RepM Γ σ own mad S c) (hl : sTL S < 200) (hs' : s ≤ 24) (e2 : nI s + (-8) = s2) (k : ∀ σ', RepM Γ σ' own mad (stT S (up (sT S) (sTL S) (byt v s)) (sTL S + 1)) c → FR (MDs mad) σ σ' → hc σ' = hc σ → hv σ' = hv σ → gi σ' (mad 0) 0 = gi σ (mad 0) 0 → EV Γ MX9_four d 3 [some (.ref (mad 0)), some (.int v), some (.int s2)] [] σ' Q) : EV Γ MX9_four d 3 [some (.ref (mad 0)), some (.int v), some (.int (nI s))] [] σ Q := by
  have x1 := R.2.1
  have y1 : gi σ (mad 0) 2 = nI (sTL S) := R.2.2.2.1.1
  refine gX9_four_3 ⟨fun z => absurd z (nI_pos (by omega)), fun _ => ⟨x1.1, mad 1, x1.2.1, 200, R.2.2.1.1, sTL S, ?_, ?_⟩⟩
  · rw [y1]; exact IXn (by omega) (by omega)
  · intro σ9 e9 σ14 e14
    have n01 : mad 0 ≠ mad 1 := R.ne (by omega) (by omega) (by omega)
    have g1 : gi σ9 (mad 0) = gi σ (mad 0) := by rw [e9]; exact up_ne _ _ n01
    rw [g1, y1, nI_1] at e14
    have h := R.byte hl (by8_i ((v.toUInt32 >>> ((nI s).toUInt32 &&& Int32.toUInt32 31)).toInt32))
    rw [nar_byte, byt_sh v hs'] at e9
    have h : RepM Γ (setI (setI σ (mad 1) (sTL S) (byt v s)) (mad 0) 2 (nI (sTL S + 1))) own mad (stT S (up (sT S) (sTL S) (byt v s)) (sTL S + 1)) c ∧ FR (MDs mad) σ (setI (setI σ (mad 1) (sTL S) (byt v s)) (mad 0) 2 (nI (sTL S + 1))) := h
    rw [← e9, ← e14] at h
    rw [e2]
    refine k σ14 h.1 h.2 (by rw [e14, e9]; rfl) (by rw [e14, e9]; rfl) ?_
    rw [← g1, e14]
    exact congrFun (up_same _ _ _) 0 |>.trans (up_ne _ _ (by decide))
theorem mfour_R {v : Int32} (R : RepM Γ σ own mad S c) (hl : sTL S + 4 ≤ 200) : RV Γ d MX9_four [.ref (mad 0), .int v] σ (fun σ' => RepM Γ σ' own mad (stT S (ap4 (sT S) (sTL S) v) (sTL S + 4)) c ∧ FR (MDs mad) σ σ' ∧ hc σ' = hc σ ∧ hv σ' = hv σ ∧ gi σ' (mad 0) 0 = gi σ (mad 0) 0) := by
  refine eX9_four (mab_step (s := 24) R (by omega) (by omega) (s2 := nI 16) (by decide) (fun σ1 R1 F1 c1 v1 t1 => ?_))
  refine mab_step (s := 16) R1 (by show sTL S + 1 < 200; omega) (by omega) (s2 := nI 8) (by decide) (fun σ2 R2 F2 c2 v2 t2 => ?_)
  refine mab_step (s := 8) R2 (by show sTL S + 1 + 1 < 200; omega) (by omega) (s2 := nI 0) (by decide) (fun σ3 R3 F3 c3 v3 t3 => ?_)
  refine mab_step (s := 0) R3 (by show sTL S + 1 + 1 + 1 < 200; omega) (by omega) (s2 := -8) (by decide) (fun σ4 R4 F4 c4 v4 t4 => ?_)
  exact gX9_four_3 ⟨fun _ => ⟨rfl, R4, ((F1.trans F2).trans F3).trans F4, by omega, by omega, by rw [t4, t3, t2, t1]⟩, fun z => absurd (by decide) z⟩
theorem mfeed_C {a b c' d' e : Int32} (R : RepM Γ σ own mad S c) (hd : 7 ≤ d) : CMN Γ d MX9_feed [.ref (mad 0), .int a, .int b, .int c', .int d', .int e] σ own mad c (aFeed S a b c' d' e) := by
  refine RUN.wf (fun W => eX9_feed ⟨R.2.1.1, fun σ2 e2 => ?_⟩)
  obtain ⟨R2, F2, g2, st, W2⟩ := mq_code R W e2
  have l2 := R.2.2.2.2.2.2.1
  have c2 : hc σ2 = hc σ := by rw [e2]; rfl
  have v2 : hv σ2 = hv σ := by rw [e2]; rfl
  rw [R2.2.2.2.1.1, show nI (sTL S) + 20 = nI (sTL S + 20) from nI_add _ 20]
  refine ⟨fun z => ?_, fun z => ?_⟩
  · have z := (nI_leI (b := 200) (by omega) (by omega)).mp z
    have hA : aFeed S a b c' d' e = (0, nI (sTL S + 20), stT S (ap4 (ap4 (ap4 (ap4 (ap4 (sT S) (sTL S) a) (sTL S + 4) b) (sTL S + 8) c') (sTL S + 12) d') (sTL S + 16) e) (sTL S + 20)) := if_neg (by omega)
    rw [hA]
    refine CV.of (d2 := 0) (mfour_R R2 (by omega)) (by omega) (fun τ1 W1 h => ?_)
    obtain ⟨R1, F1, k1, u1, t1⟩ := h
    refine ⟨R1.2.1.1, CV.of (d2 := 0) (mfour_R R1 (by show sTL S + 4 + 4 ≤ 200; omega)) (by omega) (fun τ2 W2 h => ?_)⟩
    obtain ⟨R2', F2', k2, u2, t2⟩ := h
    refine ⟨R2'.2.1.1, CV.of (d2 := 0) (mfour_R R2' (by show sTL S + 4 + 4 + 4 ≤ 200; omega)) (by omega) (fun τ3 W3 h => ?_)⟩
    obtain ⟨R3, F3, k3, u3, t3⟩ := h
    refine ⟨R3.2.1.1, CV.of (d2 := 0) (mfour_R R3 (by show sTL S + 4 + 4 + 4 + 4 ≤ 200; omega)) (by omega) (fun τ4 W4 h => ?_)⟩
    obtain ⟨R4, F4, k4, u4, t4⟩ := h
    refine ⟨R4.2.1.1, CV.of (d2 := 0) (mfour_R R4 (by show sTL S + 4 + 4 + 4 + 4 + 4 ≤ 200; omega)) (by omega) (fun τ5 W5 h => ?_)⟩
    obtain ⟨R5, F5, k5, u5, t5⟩ := h
    refine ⟨R5.2.1.1, ⟨?_, by rw [t5, t4, t3, t2, t1, g2]; rfl⟩, StepM.same R5 (F2.trans (((((F1.trans F2').trans F3).trans F4).trans F5).mono (fun _ z => R.md z))) (by omega) (by omega)⟩
    rw [R5.2.2.2.1.1]; rfl
  · have hA : aFeed S a b c' d' e = (1, 0, S) := if_pos (by
      rcases Nat.lt_or_ge 180 (sTL S) with y | y
      · exact y
      · exact absurd ((nI_leI (b := 200) (by omega) (by omega)).mpr (by omega)) z)
    exact mfail_at (k := 1) (M := MX9_feed) R W e2 hA (by omega)
/-- an int of the object replaced -/
theorem RepM.fld {S' : StT} {i : Nat} {x : Int32} (R : RepM Γ σ own mad S c) (h : M3 (setI σ (mad 0) i x) mad S') (V : WS S') (q1 : ∀ j, j < sTL S' → j < sTL S ∧ sT S' j = sT S j) (q2 : ∀ j, j < sOL S' → j < sOL S ∧ sO S' j = sO S j) (q3 : sR S' = sR S) (q4 : sK S' = sK S) (q5 : ∀ j, j < sHL S' → j < sHL S ∧ sH S' j = sH S j) (q6 : sN S' = sN S) (q7 : sF S' = sF S) : RepM Γ (setI σ (mad 0) i x) own mad S' c ∧ FR (MDs mad) σ (setI σ (mad 0) i x) := by
  have F : FR (MDs mad) σ (setI σ (mad 0) i x) := FR.setI _ _ _ ⟨0, by omega, rfl⟩
  have gn : ∀ i', i' < 12 → i' ≠ 0 → gi (setI σ (mad 0) i x) (mad i') = gi σ (mad i') := fun i' hi h0 => up_ne _ _ (R.ne hi (by omega) h0)
  refine ⟨R.ints F rfl rfl h ?_ V, F⟩
  obtain ⟨t1, t2, t3, t4, t5, t6⟩ := R.2.2.2.2.1
  unfold M4
  rw [gn 1 (by omega) (by omega), gn 2 (by omega) (by omega), gn 3 (by omega) (by omega), gn 5 (by omega) (by omega), gn 6 (by omega) (by omega)]
  refine ⟨fun j hj => ?_, fun j hj => ?_, by rw [q3]; exact t3, by rw [q4]; exact t4, fun j hj => ?_, by unfold okv at t6 ⊢; rw [q6, q3, q7]; exact t6⟩
  · rw [(q1 j hj).2]; exact t1 j (q1 j hj).1
  · rw [(q2 j hj).2]; exact t2 j (q2 j hj).1
  · rw [(q5 j hj).2]; exact t5 j (q5 j hj).1
theorem mtrim_C {n : Int32} (R : RepM Γ σ own mad S c) (hd : 4 ≤ d) : CMN Γ d MX9_trim [.ref (mad 0), .int n] σ own mad c (aTrim S n) := by
  refine RUN.wf (fun W => eX9_trim ⟨R.2.1.1, fun σ2 e2 => ?_⟩)
  obtain ⟨R2, F2, g2, st, W2⟩ := mq_code R W e2
  have l2 := R.2.2.2.2.2.2.1
  have bad : (n < 0 ∨ ¬ n ≤ nI (sTL S)) → EV Γ MX9_trim d 17 [some (.ref (mad 0)), none] [] σ2 (fun oc σ' => ansM (aTrim S n) (mad 0) oc σ' ∧ StepM Γ σ own mad c (aTrim S n).2.2 σ') := fun h =>
    gX9_trim_17 ⟨R2.2.1.1, mfail_at (k := 1) (M := MX9_trim) R W e2 (if_pos h) (by omega)⟩
  refine ⟨fun z => bad (Or.inl z), fun z1 => ?_⟩
  rw [R2.2.2.2.1.1]
  refine ⟨fun z2 => ?_, fun z => bad (Or.inr z)⟩
  intro σ7 e7
  have hA : aTrim S n = (0, n, stT S (sT S) (ixF n)) := if_neg (fun y => y.elim z1 (fun y => y z2))
  rw [hA]
  obtain ⟨k, hk, rfl⟩ := nI_of z1
  have ek : ixF (nI k) = k := pk_tn (by omega)
  rw [ek]
  have kl := (nI_leI hk (by omega)).mp z2
  obtain ⟨x1, x2, x3, x4, x5, x6⟩ := R2.2.2.2.1
  have g0 : gi (setI σ2 (mad 0) 2 (nI k)) (mad 0) = up (gi σ2 (mad 0)) 2 (nI k) := up_same _ _ _
  obtain ⟨z1', z2', z3, z4, z5, z6, z7, z8⟩ := R2.2.2.2.2.2.2
  have H := R2.fld (S' := stT S (sT S) k) (i := 2) (x := nI k) (by
    unfold M3
    rw [g0]
    exact ⟨up_same _ _ _, (up_ne _ _ (by decide)).trans x2, (up_ne _ _ (by decide)).trans x3, (up_ne _ _ (by decide)).trans x4, (up_ne _ _ (by decide)).trans x5, (up_ne _ _ (by decide)).trans x6⟩) ⟨by show k ≤ 200; omega, z2', z3, z4, z5, z6, z7, fun i hi => z8 i (by have hi : i < k := hi; omega)⟩ (fun j hj => ⟨by have hj : j < k := hj; omega, rfl⟩) (fun j hj => ⟨hj, rfl⟩) rfl rfl (fun j hj => ⟨hj, rfl⟩) rfl rfl
  rw [← e7] at H g0
  refine ⟨⟨rfl, ?_⟩, StepM.same H.1 (F2.trans (H.2.mono (fun _ z => R.md z))) (by rw [e7, e2]; rfl) (by rw [e7, e2]; rfl)⟩
  rw [g0]
  exact (up_ne _ _ (by decide)).trans g2
theorem msetCost_C {e v : Int32} (R : RepM Γ σ own mad S c) (hd : 4 ≤ d) : CMN Γ d MX9_setCost [.ref (mad 0), .int e, .int v] σ own mad c (aSetC S e v) := by
  refine RUN.wf (fun W => eX9_setCost ⟨R.2.1.1, fun σ2 e2 => ?_⟩)
  obtain ⟨R2, F2, g2, st, W2⟩ := mq_code R W e2
  refine CI.of (d2 := 0) isElement_R (by omega) (fun r σ5 _ q => ?_)
  obtain ⟨q1, q2⟩ := q
  subst q1
  rcases q2 with ⟨q2, hx⟩ | ⟨q2, hx⟩
  · subst q2
    obtain ⟨k1, k2⟩ := isE_ix hx
    refine ⟨fun _ => ?_, fun z => absurd z (by decide)⟩
    have bad : (v < -1000 ∨ ¬ v ≤ 1000) → EV Γ MX9_setCost d 32 [some (.ref (mad 0)), none, none, none] [] σ5 (fun oc σ' => ansM (aSetC S e v) (mad 0) oc σ' ∧ StepM Γ σ own mad c (aSetC S e v).2.2 σ') := fun h =>
      gX9_setCost_32 ⟨R2.2.1.1, mfail_at (k := 2) (M := MX9_setCost) R W e2 ((if_neg (fun y => bd_false.mp y hx)).trans (if_pos h)) (by omega)⟩
    refine ⟨fun z => bad (Or.inl z), fun z1 => ⟨fun z2 => ?_, fun z => bad (Or.inr z)⟩⟩
    have hA : aSetC S e v = (0, sK S (ixF e), stC S (ixF e) v) := (if_neg (fun y => bd_false.mp y hx)).trans (if_neg (fun y => y.elim z1 (fun y => y z2)))
    rw [hA]
    refine ⟨R2.2.1.1, mad 5, R2.2.1.2.2.2.2.2.1, 12, R2.2.2.1.2.2.2.2.1, ixF e, ?_, ?_⟩
    · have e' : IX e 12 (ixF e) ↔ IX (nI (ixF e)) 12 (ixF e) := by rw [← k2]
      rw [e']; exact IXn (by omega) (by omega)
    · intro σ7 e7
      have n05 : mad 0 ≠ mad 5 := R.ne (by omega) (by omega) (by omega)
      have F7 : FR (MDs mad) σ5 σ7 := by rw [e7]; exact FR.setI _ _ _ ⟨5, by omega, rfl⟩
      have g5 : gi σ7 (mad 5) = up (gi σ5 (mad 5)) (ixF e) v := by rw [e7]; exact up_same _ _ _
      have gn : ∀ i', i' < 12 → i' ≠ 5 → gi σ7 (mad i') = gi σ5 (mad i') := fun i' hi h0 => by rw [e7]; exact up_ne _ _ (R.ne hi (by omega) h0)
      obtain ⟨x1, x2, x3, x4, x5, x6⟩ := R2.2.2.2.1
      obtain ⟨t1, t2, t3, t4, t5, t6⟩ := R2.2.2.2.2.1
      obtain ⟨z1', z2', z3, z4, z5, z6, z7, z8⟩ := R2.2.2.2.2.2.2
      have R7 : RepM Γ σ7 own mad (stC S (ixF e) v) c := by
        refine R2.ints F7 (by rw [e7]; rfl) (by rw [e7]; rfl) ?_ ?_ ⟨z1', z2', z3, z4, z5, z6, fun i hi => ?_, z8⟩
        · unfold M3
          rw [gn 0 (by omega) (by omega)]; exact ⟨x1, x2, x3, x4, x5, x6⟩
        · unfold M4
          rw [g5, gn 1 (by omega) (by omega), gn 2 (by omega) (by omega), gn 3 (by omega) (by omega), gn 6 (by omega) (by omega), show gj σ7 = gj σ5 by rw [e7]; rfl]
          refine ⟨t1, t2, t3, fun i hi => ?_, t5, t6⟩
          show up (gi σ5 (mad 5)) (ixF e) v i = up (sK S) (ixF e) v i
          by_cases y : i = ixF e
          · rw [y, up_same, up_same]
          · rw [up_ne _ _ y, up_ne _ _ y]; exact t4 i hi
        · show -1000 ≤ (up (sK S) (ixF e) v i).toInt ∧ (up (sK S) (ixF e) v i).toInt ≤ 1000
          by_cases y : i = ixF e
          · rw [y, up_same]
            have p1 := Int32.le_iff_toInt_le.mp z2
            have p2 : ¬ v.toInt < (-1000 : Int32).toInt := fun t => z1 (Int32.lt_iff_toInt_lt.mpr t)
            have q1 : (1000 : Int32).toInt = 1000 := by decide
            have q2 : (-1000 : Int32).toInt = -1000 := by decide
            omega
          · rw [up_ne _ _ y]; exact z7 i hi
      refine ⟨⟨?_, by rw [gn 0 (by omega) (by omega)]; exact g2⟩, StepM.same R7 (F2.trans (F7.mono (fun _ z => R.md z))) (by rw [e7, e2]; rfl) (by rw [e7, e2]; rfl)⟩
      rw [t4 _ k1]
  · subst q2
    refine ⟨fun z => absurd rfl z, fun _ => ⟨R2.2.1.1, ?_⟩⟩
    exact mfail_at (k := 1) (M := MX9_setCost) R W e2 (if_pos (bd_false.mpr hx)) (by omega)
theorem mrelease_C {f : Int32} (R : RepM Γ σ own mad S c) (hd : 4 ≤ d) : CMN Γ d MX9_release [.ref (mad 0), .int f] σ own mad c (aRel S f) := by
  refine RUN.wf (fun W => eX9_release ⟨R.2.1.1, mlook_call R ⟨R.2.1.1, fun σ5 e5 => ?_⟩ (by omega)⟩)
  obtain ⟨R5, F5, g5, st, W5⟩ := mq_code R W e5
  rw [g5]
  have n2 := R.n.2
  rcases fcd_le S f with e | e | e
  · have hA : aRel S f = (0, sL S - 1, stR S (ixF f)) := (if_neg (by omega)).trans (if_neg (by omega))
    rw [hA, e]
    rw [e] at g5
    obtain ⟨e1, e2, e3⟩ := fcd_0 n2 e
    refine ⟨fun _ => ⟨mad 3, R5.2.1.2.2.2.1, 200, R5.2.2.1.2.2.1, ixF f, ?_, ?_⟩, fun z => absurd rfl z⟩
    · have e' : IX f 200 (ixF f) ↔ IX (nI (ixF f)) 200 (ixF f) := by rw [← e1]
      rw [e']; exact IXn (by omega) (by omega)
    · intro σ15 e15 σ20 e20
      have n03 : mad 0 ≠ mad 3 := R.ne (by omega) (by omega) (by omega)
      have e15' : σ15 = setI σ5 (mad 3) (ixF f) 1 := e15
      have F20 : FR (MDs mad) σ5 σ20 := by rw [e20, e15']; exact (FR.setI _ _ _ ⟨3, by omega, rfl⟩).trans (FR.setI _ _ _ ⟨0, by omega, rfl⟩)
      have g15 : gi σ15 (mad 0) = gi σ5 (mad 0) := by rw [e15']; exact up_ne _ _ n03
      have g0 : gi σ20 (mad 0) = up (gi σ5 (mad 0)) 7 (gi σ5 (mad 0) 7 - 1) := by rw [e20, ← g15]; exact up_same _ _ _
      have g3 : gi σ20 (mad 3) = up (gi σ5 (mad 3)) (ixF f) 1 := by rw [e20, e15']; exact (up_ne _ _ n03.symm).trans (up_same _ _ _)
      have gn : ∀ i', i' < 12 → i' ≠ 0 → i' ≠ 3 → gi σ20 (mad i') = gi σ5 (mad i') := fun i' hi h0 h3 => by rw [e20, e15']; exact (up_ne _ _ (R.ne hi (by omega) h0)).trans (up_ne _ _ (R.ne hi (by omega) h3))
      obtain ⟨x1, x2, x3, x4, x5, x6⟩ := R5.2.2.2.1
      obtain ⟨t1, t2, t3, t4, t5, t6⟩ := R5.2.2.2.2.1
      obtain ⟨z1', z2', z3, z4, z5, z6, z7, z8⟩ := R5.2.2.2.2.2.2
      have ok : ∀ v, okv (stR S (ixF f)) v = true → okv S v = true := fun v hv' => by
        obtain ⟨a1, a2⟩ := okf_t.mp hv'
        have a2 : up (sR S) (ixF f) true v = false := a2
        refine okf_t.mpr ⟨a1, ?_⟩
        by_cases y : v = ixF f
        · rw [y, up_same] at a2; exact absurd a2 (by decide)
        · rw [up_ne _ _ y] at a2; exact a2
      have R20 : RepM Γ σ20 own mad (stR S (ixF f)) c := by
        refine R5.ints F20 (by rw [e20, e15']; rfl) (by rw [e20, e15']; rfl) ?_ ?_ ⟨z1', z2', z3, z4, fun i hi => ?_, fun v hv' => z6 v (ok v hv'), z7, z8⟩
        · unfold M3
          rw [g0]
          exact ⟨(up_ne _ _ (by decide)).trans x1, (up_ne _ _ (by decide)).trans x2, (up_ne _ _ (by decide)).trans x3, (up_ne _ _ (by decide)).trans x4, (up_same _ _ _).trans (by rw [x5]; rfl), (up_ne _ _ (by decide)).trans x6⟩
        · unfold M4
          rw [g3, gn 1 (by omega) (by omega) (by omega), gn 2 (by omega) (by omega) (by omega), gn 5 (by omega) (by omega) (by omega), gn 6 (by omega) (by omega) (by omega), show gj σ20 = gj σ5 by rw [e20, e15']; rfl]
          refine ⟨t1, t2, fun i hi => ?_, t4, t5, fun v hv' => t6 v (ok v hv')⟩
          show up (gi σ5 (mad 3)) (ixF f) 1 i = b2i (up (sR S) (ixF f) true i)
          by_cases y : i = ixF f
          · rw [y, up_same, up_same]; rfl
          · rw [up_ne _ _ y, up_ne _ _ y]; exact t3 i hi
        · have hi : sN S ≤ i := hi
          exact (up_ne _ _ (by omega)).trans (z5 i hi)
      refine ⟨⟨?_, by rw [g0]; exact (up_ne _ _ (by decide)).trans g5⟩, StepM.same R20 (F5.trans (F20.mono (fun _ z => R.md z))) (by rw [e20, e15', e5]; rfl) (by rw [e20, e15', e5]; rfl)⟩
      rw [g0, up_same, x5]
  · have hA : aRel S f = (1, 0, S) := if_pos e
    rw [hA, e]
    rw [e] at g5
    exact ⟨fun z => absurd z (by decide), fun _ => ⟨⟨rfl, g5⟩, st⟩⟩
  · have hA : aRel S f = (2, 0, S) := (if_neg (by omega)).trans (if_pos e)
    rw [hA, e]
    rw [e] at g5
    exact ⟨fun z => absurd z (by decide), fun _ => ⟨⟨rfl, g5⟩, st⟩⟩
end MO
