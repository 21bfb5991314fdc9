/-! ROWS of the model: evaluate. -/
section MEV
variable {Γ : Gm} {d : Nat} {σ : AH} {own mad : Nat → Nat} {S : StT} {c : Nat}
/-- the error set, the text gone -/
theorem RepM.err {τ : AH} {E : Int32} (R : RepM Γ σ own mad S c) (h : Chg (fun a => a = mad 0 ∨ a = mad 11) (fun _ => False) σ τ) (hi : ∀ i, i < 23 → i ≠ 0 → gi τ (mad 0) i = gi σ (mad 0) i) (h0 : gi τ (mad 0) 0 = 0) : RepM Γ (setI (setI τ (mad 0) 2 0) (mad 0) 5 E) own mad (stE S E) c ∧ FR (RP MW own (lo Γ + hc σ)) σ (setI (setI τ (mad 0) 2 0) (mad 0) 5 E) ∧ gi (setI (setI τ (mad 0) 2 0) (mad 0) 5 E) (mad 0) 0 = 0 := by
  have F1 : FR (MDs mad) σ τ := FR.chg h (fun a z => by
    rcases z with z | z
    · exact ⟨0, by omega, z⟩
    · exact ⟨11, by omega, z⟩) (fun a z => z.elim)
  have F : FR (MDs mad) σ (setI (setI τ (mad 0) 2 0) (mad 0) 5 E) := (F1.trans (FR.setI _ _ _ ⟨0, by omega, rfl⟩)).trans (FR.setI _ _ _ ⟨0, by omega, rfl⟩)
  have g0 : gi (setI (setI τ (mad 0) 2 0) (mad 0) 5 E) (mad 0) = up (up (gi τ (mad 0)) 2 0) 5 E := (up_same _ _ _).trans (by rw [show gi (setI τ (mad 0) 2 0) (mad 0) = up (gi τ (mad 0)) 2 0 from up_same _ _ _])
  have gn : ∀ i, i < 12 → i ≠ 0 → i ≠ 11 → gi (setI (setI τ (mad 0) 2 0) (mad 0) 5 E) (mad i) = gi σ (mad i) := fun i hi h0 h11 => ((up_ne _ _ (R.ne hi (by omega) h0)).trans (up_ne _ _ (R.ne hi (by omega) h0))).trans (h.gi (fun z => z.elim (R.ne hi (by omega) h0) (R.ne hi (by omega) h11)))
  have R' := R
  obtain ⟨O, x1, x2, ⟨y1, y2, y3, y4, y5, y6⟩, ⟨t1, t2, t3, t4, t5, t6⟩, x5, ⟨z1, z2, z3, z4, z5, z6, z7, z8⟩⟩ := R'
  refine ⟨R.ints F h.2.2.2.1 h.1 ?_ ?_ ⟨by show 0 ≤ 200; omega, z2, z3, z4, z5, z6, z7, fun i hi => absurd hi (Nat.not_lt_zero i)⟩, F.mono (fun _ z => R.md z), ?_⟩
  · unfold M3
    rw [g0]
    exact ⟨(up_ne _ _ (by decide)).trans (up_same _ _ _), ((up_ne _ _ (by decide)).trans (up_ne _ _ (by decide))).trans ((hi 4 (by omega) (by omega)).trans y2), up_same _ _ _, ((up_ne _ _ (by decide)).trans (up_ne _ _ (by decide))).trans ((hi 6 (by omega) (by omega)).trans y4), ((up_ne _ _ (by decide)).trans (up_ne _ _ (by decide))).trans ((hi 7 (by omega) (by omega)).trans y5), ((up_ne _ _ (by decide)).trans (up_ne _ _ (by decide))).trans ((hi 12 (by omega) (by omega)).trans y6)⟩
  · unfold M4
    rw [gn 2 (by omega) (by omega) (by omega), gn 3 (by omega) (by omega) (by omega), gn 5 (by omega) (by omega) (by omega), gn 6 (by omega) (by omega) (by omega), show gj (setI (setI τ (mad 0) 2 0) (mad 0) 5 E) = gj σ from funext (fun a => h.gj (fun z => z))]
    exact ⟨fun i hi => absurd hi (Nat.not_lt_zero i), t2, t3, t4, t5, t6⟩
  · rw [g0]
    exact ((up_ne _ _ (by decide)).trans (up_ne _ _ (by decide))).trans h0
theorem MRes_none {wk : Nat} {r : Int32} {τ : AH} {X : Option (Nat → Nat → Bool)} (h : MRes X wk r τ) (e : X = none) : r = 0 := by
  rw [e] at h; exact h
theorem MRes_some {wk : Nat} {r : Int32} {τ : AH} {X : Option (Nat → Nat → Bool)} {S1 : Nat → Nat → Bool} (h : MRes X wk r τ) (e : X = some S1) : r = 1 ∧ fam (sr (gj τ wk) 0) = S1 0 := by
  rw [e] at h; exact h
theorem mevaluate_C {R0 : RS} (R : RepM Γ σ own mad S c) (H : MN Γ MX9_sum (dS 0) (mad 0) (mad 1) (mad 11) (mad 3) (sT S) (sTL S) (sN S) (sR S) (skp (sT S) (sTL S) 0) 0 R0) (G : RG (sT S) (sTL S) (sN S) (sR S) (skp (sT S) (sTL S) 0) (nS 0) R0) (hd : 120 ≤ d) : CMN Γ d MX9_evaluate [.ref (mad 0)] σ own mad c (aEval S R0) := by
  refine RUN.wf (fun W => eX9_evaluate ⟨R.2.1.1, fun σ2 e2 σ5 e5 σ8 e8 σ11 e11 σ14 e14 => ?_⟩)
  have t2 : sTL S ≤ 200 := R.2.2.2.2.2.2.1
  have n2 := R.n.2
  have gI : gi σ14 (mad 0) = up (up (up (up (up (gi σ (mad 0)) 0 0) 24 0) 25 0) 26 (-1)) 23 0 := by
    rw [e14, e11, e8, e5, e2]
    simp only [gi_setI_s]
  have gN : ∀ a, a ≠ mad 0 → gi σ14 a = gi σ a := fun a ha => by
    rw [e14, e11, e8, e5, e2]
    exact (up_ne _ _ ha).trans ((up_ne _ _ ha).trans ((up_ne _ _ ha).trans ((up_ne _ _ ha).trans (up_ne _ _ ha))))
  have h14 : hs σ14 = hs σ := by rw [e14, e11, e8, e5, e2]; rfl
  have r14 : gr σ14 = gr σ := by rw [e14, e11, e8, e5, e2]; rfl
  have C14 : Chg (fun a => a = mad 0 ∨ a = mad 11) nJ σ σ14 := by
    rw [e14, e11, e8, e5, e2]
    exact ((((Chg.rowI _ _ (Or.inl rfl)).trans (Chg.rowI _ _ (Or.inl rfl))).trans (Chg.rowI _ _ (Or.inl rfl))).trans (Chg.rowI _ _ (Or.inl rfl))).trans (Chg.rowI _ _ (Or.inl rfl))
  have gI23 : ∀ i, i < 23 → i ≠ 0 → gi σ14 (mad 0) i = gi σ (mad 0) i := fun i hi h0 => by
    rw [gI, up_ne _ _ (by omega), up_ne _ _ (by omega), up_ne _ _ (by omega), up_ne _ _ (by omega), up_ne _ _ h0]
  have gI0 : gi σ14 (mad 0) 0 = 0 := by
    rw [gI, up_ne _ _ (by decide), up_ne _ _ (by decide), up_ne _ _ (by decide), up_ne _ _ (by decide), up_same]
  have n1 := R.ne (i := 1) (j := 0) (by omega) (by omega) (by omega)
  have n3 := R.ne (i := 3) (j := 0) (by omega) (by omega) (by omega)
  have C : MRs σ14 (mad 0) (mad 1) (mad 11) (mad 3) (sT S) (sTL S) (sN S) (sR S) := by
    unfold MRs
    rw [h14, r14, gN _ n1, gN _ n3, gI23 2 (by omega) (by omega), gI23 6 (by omega) (by omega)]
    exact ⟨R.2.1.1, R.2.1.2.1, R.2.1.2.2.2.1, R.2.1.2.2.2.2.2.2.2.2.2.2.2, R.2.2.1.1, R.2.2.1.2.2.1, R.2.2.1.2.2.2.2.2.2.2.2.2.2, t2, n2, R.2.2.2.1.1, R.n.1, R.2.2.2.2.1.1, fun i hi => R.2.2.2.2.1.2.2.1 i (by omega), R.2.2.2.2.2.2.2.2.2.2.2.2.2⟩
  have D : MD σ14 (mad 0) (mad 11) 0 [] 0 := by
    unfold MD
    rw [gI]
    refine ⟨?_, ?_, ?_, ?_, fun j s h => absurd h (by simp)⟩
    · rw [up_ne _ _ (by decide), up_ne _ _ (by decide), up_ne _ _ (by decide), up_same]; rfl
    · rw [up_same]; rfl
    · rw [up_ne _ _ (by decide), up_ne _ _ (by decide), up_same]; rfl
    · rw [up_ne _ _ (by decide), up_same]
  -- the end
  have tail : ∀ (τ : AH) (E : Int32), CM (mad 0) (mad 11) σ14 τ → gi τ (mad 0) 26 = E → (¬ E < 0 → aEval S R0 = (1, 0, stE S E)) → (E < 0 → ∃ x, R0 = .inr x ∧ E = -1 ∧ aEval S R0 = (if sN S = 200 then (2, 0, stE S (-1)) else aRun S (exe (sF S) x.2 0 (fun _ => zf))) ∧ gi τ (mad 0) 23 = nI x.2.length ∧ ∀ j s, x.2[j]? = some s → gi τ (mad 11) j = nI s) → EV Γ MX9_evaluate d 51 [some (.ref (mad 0))] [] τ (fun oc σ' => ansM (aEval S R0) (mad 0) oc σ' ∧ StepM Γ σ own mad c (aEval S R0).2.2 σ') := by
    intro τ E hC hE hp hm
    have CC : Chg (fun a => a = mad 0 ∨ a = mad 11) (fun _ => False) σ τ := (C14.trans hC.1).mono (fun _ z => z) (fun _ z => z)
    refine gX9_evaluate_51 ⟨CC.gh R.2.1.1, fun σ2' e2' σ5' e5' => ?_⟩
    have hE2 : gi σ2' (mad 0) 26 = E := by
      rw [e2']
      exact (congrFun (up_same _ _ _) 26).trans ((up_ne _ _ (by decide)).trans hE)
    rw [hE2] at e5'
    obtain ⟨R5, F5, g5⟩ := R.err (E := E) CC (fun i hi h0 => (hC.2 i hi).trans (gI23 i hi h0)) ((hC.2 0 (by omega)).trans gI0)
    rw [← e2', ← e5'] at R5 F5 g5
    have c5 : hc σ5' = hc σ := by rw [e5', e2']; exact CC.1
    have v5 : hv σ5' = hv σ := by rw [e5', e2']; exact CC.2.1
    have g00 : gi σ5' (mad 0) = up (up (gi τ (mad 0)) 2 0) 5 E := by
      rw [e5', e2']
      exact (up_same _ _ _).trans (by rw [show gi (setI τ (mad 0) 2 0) (mad 0) = up (gi τ (mad 0)) 2 0 from up_same _ _ _])
    have g26 : gi σ5' (mad 0) 26 = E := by
      rw [g00, up_ne _ _ (by decide), up_ne _ _ (by decide)]; exact hE
    rw [g26]
    refine ⟨fun y => ?_, fun y => mfail_any (k := 1) R5 F5 c5 v5 (hp y) (by omega)⟩
    obtain ⟨x, ex, eE, hA, h23, hpg⟩ := hm y
    rw [eE] at R5
    refine ⟨fun z => ?_, fun z => ?_⟩
    · have hn : sN S < 200 := by have : sN S ≠ 200 := fun t => z (R5.full.mpr t); omega
      rw [if_neg (by omega)] at hA
      obtain ⟨q1, q3, q4, q5, q6, q7⟩ := G x ex
      have n0 : mad 11 ≠ mad 0 := R.ne (by omega) (by omega) (by omega)
      refine CI.of (d2 := 8) (mrun_R (FM := sF S) (S0 := fun _ => zf) (n := sN S) (rel := sR S) (pr := x.2) R5.ma R5.2.1.2.2.2.2.2.2.2.2.2.2.2 R5.2.2.1.2.2.2.2.2.2.2.2.2.2 (by rw [g00, up_ne _ _ (by decide), up_ne _ _ (by decide)]; exact h23) (by omega) (fun j s hj => by rw [e5', e2', gi_setI_n _ _ _ n0, gi_setI_n _ _ _ n0]; exact hpg j s hj) R5.2.1.2.2.2.2.1 R5.2.2.1.2.2.2.1 ⟨R.ne (by omega) (by omega) (by omega), R.ne (by omega) (by omega) (by omega), R.ne (by omega) (by omega) (by omega)⟩ (fun f hf => R5.2.2.2.2.1.2.2.2.2.2 f hf) n2 (q7 0 (by unfold nS; omega)) q6 (by omega)) (by omega) (fun r σ6 W6 q => ?_)
      obtain ⟨k1, k2⟩ := q
      have K6 := R5.wk2 F5 c5 v5 g5 k1
      cases hX : exe (sF S) x.2 0 (fun _ => zf) with
      | none =>
        have r0 := MRes_none k2 hX
        rw [hX] at hA
        refine ⟨fun _ => ⟨K6.1.2.1.1, mfail_any (k := 3) K6.1 K6.2.1 K6.2.2.1 K6.2.2.2.1 hA (by omega)⟩, fun t => absurd r0 t⟩
      | some S1 =>
        obtain ⟨r1, rf⟩ := MRes_some k2 hX
        rw [hX] at hA
        rw [rf] at K6
        refine ⟨fun t => absurd (r1.symm.trans t) (by decide), fun _ => ⟨K6.1.2.1.1, K6.ans hn hA (by omega)⟩⟩
    · have e200 : sN S = 200 := R5.full.mp z
      rw [if_pos e200] at hA
      exact mfail_any (k := 2) R5 F5 c5 v5 hA (by omega)
  have sk : skp (sT S) (sTL S) 0 ≤ sTL S := by
    have := (skp_b (t := sT S) (tl := sTL S) (a := 0) (b := 0) (by omega)).2
    omega
  refine CV.of (d2 := 112) (H σ14 [] 0 0 112 C D (Nat.zero_le _) sk rfl (Nat.zero_le _) (by decide)) (by omega) (fun σ17 W17 q => ?_)
  obtain ⟨hC, hR⟩ := q
  have C17 := C.chg hC
  refine ⟨C17.1, ?_⟩
  cases R0 with
  | inl e =>
    obtain ⟨a, k, -, -, -, he, hM⟩ := hR
    have h26 : gi σ17 (mad 0) 26 = nI e := hM.2.2
    rw [h26]
    have np : ¬ nI e < 0 := nI_pos (by omega)
    refine ⟨fun _ => tail σ17 (nI e) hC h26 (fun _ => rfl) (fun t => absurd t np), fun t => absurd ?_ t⟩
    exact Int32.not_lt.mp np
  | inr x =>
    obtain ⟨a, hM, ha, hsk, hlen⟩ := hR
    obtain ⟨q1, q3, q4, q5, q6, q7⟩ := G x rfl
    rw [List.nil_append] at hM hlen
    have h26 : gi σ17 (mad 0) 26 = -1 := hM.2.2.2.1
    rw [h26]
    refine ⟨fun t => absurd t (by decide), fun _ => CI.of (d2 := 0) (mlook_R C17 hM.1 (by omega)) (by omega) (fun r σ21 W21 q => ?_)⟩
    obtain ⟨r1, r2⟩ := q
    rw [hsk] at r1 r2
    have hC21 : CM (mad 0) (mad 11) σ14 σ21 := hC.trans (by rw [r2]; exact CM.set σ17 _ (by omega))
    have g21 : gi σ21 (mad 0) = up (gi σ17 (mad 0)) 24 (nI x.1) := by rw [r2]; exact up_same _ _ _
    have h26' : gi σ21 (mad 0) 26 = -1 := by rw [g21, up_ne _ _ (by decide)]; exact h26
    have lk := lkv_neg (tl := sTL S) (t := sT S) (s := x.1) C17.2.2.2.2.2.2.2.2.2.2.2.2.2
    rw [r1]
    refine ⟨fun y => ?_, fun y => ⟨(C17.chg (by rw [r2]; exact CM.set σ17 _ (by omega))).1, ?_⟩⟩
    · have tk : tkd (sT S) (sTL S) x.1 = 11 := if_pos (lk.mp y)
      refine tail σ21 (-1) hC21 h26' (fun t => absurd (by decide) t) (fun _ => ⟨x, rfl, rfl, if_pos tk, ?_, fun j s hj => ?_⟩)
      · rw [g21, up_ne _ _ (by decide)]; exact hM.2.1
      · rw [r2, gi_setI_n _ _ _ (R.ne (by omega) (by omega) (by omega))]; exact hM.2.2.2.2 j s hj
    · have tk : ¬ tkd (sT S) (sTL S) x.1 = 11 := by
        have nl : ¬ sTL S ≤ x.1 := fun t => y (lk.mpr t)
        unfold tkd
        rw [if_neg nl]
        split
        · decide
        · split
          · decide
          · split
            · rename_i h3
              intro t
              rw [t] at h3
              exact absurd h3 (by decide)
            · decide
      have g24 : gi σ21 (mad 0) 24 = nI x.1 := by rw [g21, up_same]
      rw [g24]
      refine CV.of (d2 := 0) (wrong_R (C17.chg (by rw [r2]; exact CM.set σ17 _ (by omega))).1 h26') (by omega) (fun σ25 W25 q => ?_)
      have hC25 : CM (mad 0) (mad 11) σ14 σ25 := hC21.trans (by rw [q]; exact CM.set σ21 _ (by omega))
      refine tail σ25 (nI x.1) hC25 (by rw [q]; exact congrFun (up_same _ _ _) 26 |>.trans (up_same _ _ _)) (fun _ => if_neg tk) (fun t => absurd t (nI_pos (by omega)))
end MEV
