/-! ROWS of FamilyStore: writing a family. -/
section WR2
variable {Γ : Gm} {d : Nat} {σ : AH} {own ad : Nat → Nat} {S : StT} {c w : Nat}
/-- the list of a family, as it stands in an array -/
def LstF (g : Nat → Int32) (F : Nat → Bool) : Prop := ∀ i, i < cntF F → ∃ x, x < 4096 ∧ F x = true ∧ g i = nI x ∧ fb_ct F x = i ∧ fb_ct F (x + 1) = i + 1
theorem wL_pos (F : Nat → Bool) {m i : Nat} (e : fb_ct F m = i) : wL F m = 0 ↔ i = 0 := by
  rcases wL_S F m with ⟨h1, h2, h3⟩ | ⟨h1, h0, h2⟩
  · omega
  · omega
theorem writtenLength_R {g : Nat → Int32} {F : Nat → Bool} (R : RepC Γ σ own ad S c w) (h4 : gi σ (ad 4) = g) (hl : LstF g F) (hd : 1 ≤ d) : RI Γ d MX8_writtenLength [.ref (ad 0), .int (nI (cntF F))] σ (fun r σ' => σ' = σ ∧ r = nI (if cntF F = 0 then 1 else wL F 4096)) := by
  have le := cntF_le F
  have Al := R.2.1.alg
  have sz := wS_le F 4096
  by_cases z : cntF F = 0
  · rw [if_pos z]
    exact eX8_writtenLength ⟨fun y => absurd (by rw [z]; rfl) y, fun _ => ⟨1, rfl, rfl, rfl⟩⟩
  · rw [if_neg z]
    refine eX8_writtenLength ⟨fun _ => ?_, fun y => absurd y (nI_ne0 (Nat.pos_of_ne_zero z) (by omega))⟩
    rw [show nI (cntF F) - 1 = nI (cntF F - 1) from pk_sub (b := 1) (by omega)]
    have L : ∀ i, i ≤ cntF F → ∀ v : Int32, (∀ m, m ≤ 4096 → fb_ct F m = i → v = nI (cntF F - 1 + wS F m)) → EV Γ MX8_writtenLength d 12 [some (.ref (ad 0)), some (.int (nI (cntF F))), some (.int v), some (.int (nI i))] [] σ (fun oc σ' => ∃ r, oc = .inl (some (.int r)) ∧ σ' = σ ∧ r = nI (wL F 4096)) := by
      refine upto _ ?_ (fun i hi ih => ?_)
      · intro v hv'
        refine gX8_writtenLength_12 ⟨fun _ => ⟨v, rfl, rfl, ?_⟩, fun y => absurd (nI_le (Nat.le_refl _) (by omega)) y⟩
        rw [hv' 4096 (Nat.le_refl _) rfl]
        congr 1
        have hc0 : fb_ct F 4096 = cntF F := rfl
        rcases wL_S F 4096 with ⟨h1, h2, h3⟩ | ⟨h1, h0, h2⟩
        · omega
        · omega
      · intro v hv'
        obtain ⟨x, x1, x2, x3, x4, x5⟩ := hl i hi
        refine gX8_writtenLength_12 ⟨fun y => absurd ((nI_leI (by omega) (by omega)).mp y) (by omega), fun _ => ⟨fun y => absurd ((c4096le (by omega)).mp y) (by omega), fun _ => ⟨R.x0, ad 4, R.2.1.2.2.2.2.1, 4096, Al.2.2.2.2.2.1, i, IXn (by omega) (by omega), ?_⟩⟩⟩
        rw [h4, x3]
        refine CI.of (d2 := 0) (bitc32_R x (by omega)) (by omega) (fun r σ1 _ q => ?_)
        obtain ⟨q1, rfl⟩ := q
        rw [q1, popN_12 x1, nI_1]
        have p12 := popN_le 12 x
        refine ⟨hd, ih _ (fun m hm e => ?_)⟩
        have e1 : (if (1 : Int32) < nI (popN 12 x) then nI (popN 12 x) else 1) = nI (max 1 (popN 12 x)) := by
          by_cases y : 1 < popN 12 x
          · rw [if_pos (show (1 : Int32) < nI (popN 12 x) from (nI_ltI (a := 1) (by omega) (by omega)).mpr y), show max 1 (popN 12 x) = popN 12 x by omega]
          · rw [if_neg (show ¬ (1 : Int32) < nI (popN 12 x) from fun t => y ((nI_ltI (a := 1) (by omega) (by omega)).mp t)), show max 1 (popN 12 x) = 1 by omega]; rfl
        rw [e1, hv' x (by omega) x4, nI_add]
        congr 1
        have e2 : wS F m = wS F x + max 1 (popN 12 x) := by
          unfold wS
          rw [fold_ct (e.trans x5.symm), fold_y x2]
        omega
    refine L 0 (Nat.zero_le _) _ (fun m hm e => ?_)
    have e2 : wS F m = 0 := by
      unfold wS
      rw [fold_ct (b := 0) e]; rfl
    rw [e2]; rfl
theorem RepC.out0 (R : RepC Γ σ own ad S c w) (W : WF Γ σ) : RepC Γ (setI σ (ad 0) 4 0) own ad (stW S (sO S, 0)) c w ∧ FR (IN ad) σ (setI σ (ad 0) 4 0) := by
  have F : FR (IN ad) σ (setI σ (ad 0) 4 0) := FR.setI σ _ _ (Or.inl rfl)
  have R' := R
  obtain ⟨O, x1, ⟨y1, y2, y3, y4, y5, y6, y7, y8, y9⟩, x3, x4, x5, x6, x7, x8, ⟨z1, z2, z3, z4, z5, z6, z7, z8⟩⟩ := R'
  have ge : ∀ i, i < 20 → i ≠ 0 → gi (setI σ (ad 0) 4 0) (ad i) = gi σ (ad i) := fun i hi h => up_ne _ _ (O.ne hi (by omega) h)
  have g0 : gi (setI σ (ad 0) 4 0) (ad 0) = up (gi σ (ad 0)) 4 0 := up_same _ _ _
  refine ⟨R.ints W F rfl rfl ?_ ?_ rfl rfl rfl rfl, F⟩
  · unfold C2
    rw [g0, ge 1 (by omega) (by omega), ge 2 (by omega) (by omega), ge 19 (by omega) (by omega)]
    exact ⟨(up_ne _ _ (by decide)).trans y1, (up_ne _ _ (by decide)).trans y2, up_same _ _ _, (up_ne _ _ (by decide)).trans y4, (up_ne _ _ (by decide)).trans y5, (up_ne _ _ (by decide)).trans y6, y7, fun i hi => absurd hi (Nat.not_lt_zero i), y9⟩
  · exact ⟨z1, by show 0 ≤ 1000; omega, z3, z4, z5, z6, z7, z8⟩
theorem write_R {f : Int32} (R : RepC Γ σ own ad S c w) (hd : 9 ≤ d) : CLM Γ d MX8_write [.ref (ad 0), .int f] σ own ad c w [IOB, NSE, ARE] (aWrite S f) := by
  refine RUN.wf (fun W => eX8_write ⟨R.x0, fo_call R (fun e => ?_) (fun e => ?_) (fun fo A => ?_) (by omega)⟩)
  · have hA : aWrite S f = (1, 0, S) := if_pos e
    rw [hA]; exact ⟨rfl, StepC.thr R W⟩
  · have hA : aWrite S f = (2, 0, S) := (if_neg (by omega)).trans (if_pos e)
    rw [hA]; exact ⟨rfl, StepC.thr R W⟩
  obtain ⟨ra, ka, a0, a1, a2, a3, a4, a5, a6, a7, a8, a9, a10, a11, a12, a13, a14, a15, a16⟩ := A
  have pre : aWrite S f = if 1000 < wL (sF S (ixF f)) 4096 then (3, 0, S) else (0, nI (wAll (sF S (ixF f)) (sO S)).2, stW S (wAll (sF S (ixF f)) (sO S))) := (if_neg (by omega)).trans (if_neg (by omega))
  generalize hF : sF S (ixF f) = F at *
  have Al := R.2.1.alg
  refine ⟨a5, ra, a6, R.x0, ad 4, R.2.1.2.2.2.2.1, list_call R a7 (fun g hl => ?_) (by omega)⟩
  have F1 := fr_first R (f := g) rfl
  have W1 : WF Γ (rowI σ (ad 4) g) := W.upd Al.2.2.2.2.2.1 (by decide) rfl rfl (fun _ _ => rfl)
  have R1 : RepC Γ (rowI σ (ad 4) g) own ad S c w := R.keep W F1 (fun r h => Or.inl h) (fun _ _ _ => rfl)
  have hL : LstF g F := by
    intro i hi
    rw [← a8] at hi
    obtain ⟨x, x1, x2, x3, x4, x5⟩ := lst_step hl hi
    rw [a8] at x2 x4 x5
    exact ⟨x, x1, x2, x3, x4, x5⟩
  have h4 : gi (rowI σ (ad 4) g) (ad 4) = g := up_same _ _ _
  rw [a8]
  generalize hτ : rowI σ (ad 4) g = τ at *
  have le := cntF_le F
  have sz := wS_le F 4096
  have hcτ : hc τ = hc σ := by rw [← hτ]; rfl
  have hvτ : hv τ = hv σ := by rw [← hτ]; rfl
  refine ⟨R1.x0, CI.of (d2 := 1) (writtenLength_R R1 h4 hL (by omega)) (by omega) (fun r σ12 W12 q => ?_)⟩
  obtain ⟨q1, rfl⟩ := q
  subst q1
  have ct0 : fb_ct F 4096 = cntF F := rfl
  have cw : cntF F = 0 → wL F 4096 = 0 := fun z => (wL_pos F rfl).mpr z
  have wlb : wL F 4096 < 2 ^ 20 := by
    rcases wL_S F 4096 with ⟨h1, h2, h3⟩ | ⟨h1, h0, h2⟩
    · omega
    · omega
  refine ⟨fun y => ⟨R1.x0, fun σ17 e17 => ?_⟩, fun y => ?_⟩
  · have wl : wL F 4096 ≤ 1000 := by
      by_cases z : cntF F = 0
      · rw [cw z]; omega
      · rw [if_neg z] at y
        exact (nI_leI (b := 1000) (by omega) (by omega)).mp y
    rw [pre, if_neg (by omega)]
    obtain ⟨R17, F17⟩ := R1.out0 W1
    rw [← e17] at R17 F17
    have n40 : ad 4 ≠ ad 0 := R.1.ne (by omega) (by omega) (by omega)
    have nIN : ¬ IN ad (ad 4) := by
      rintro (z | z | z | z)
      · exact R.1.ne (by omega) (by omega) (by omega) z
      · exact R.1.ne (by omega) (by omega) (by omega) z
      · exact R.1.ne (by omega) (by omega) (by omega) z
      · exact R.1.ne (by omega) (by omega) (by omega) z
    have c17 : hc σ17 = hc σ12 := by rw [e17]; rfl
    have v17 : hv σ17 = hv σ12 := by rw [e17]; rfl
    have fin : ∀ τ', RepC Γ τ' own ad (stW S (wAll F (sO S))) c w → FR (IN ad) σ12 τ' → hc τ' = hc σ12 → hv τ' = hv σ12 → StepC Γ σ own ad c w (stW S (wAll F (sO S))) τ' := fun τ' Rt Ft c1 v1 => StepC.pre F1 hcτ hvτ (StepC.ints R1 Rt Ft c1 v1)
    by_cases z : cntF F = 0
    · refine ⟨fun t => absurd (by rw [z]; rfl) t, fun _ => CV.of (d2 := 0) (out_R R17 (by show 0 < 1000; omega)) (by omega) (fun σ3 W3 h => ?_)⟩
      obtain ⟨R3, F3, c3, v3⟩ := h
      have eA : wAll F (sO S) = put1 (sO S, 0) 48 := if_pos z
      refine gX8_write_55 ⟨fun _ => ⟨R3.x0, ?_, fin σ3 (by rw [eA]; exact R3) (F17.trans F3) (by omega) (by omega)⟩, fun t => absurd (by rw [z]; decide) t⟩
      rw [R3.2.2.1.2.2.1, eA]; rfl
    · refine ⟨fun _ => ?_, fun t => absurd t (nI_ne0 (Nat.pos_of_ne_zero z) (by omega))⟩
      have eA : wAll F (sO S) = foldF F wH (sO S, 0) 4096 := if_neg z
      rw [eA] at fin ⊢
      have L : ∀ i, i ≤ cntF F → ∀ τ' a, RepC Γ τ' own ad (stW S a) c w → FR (IN ad) σ12 τ' → hc τ' = hc σ12 → hv τ' = hv σ12 → (∀ m, m ≤ 4096 → fb_ct F m = i → a = foldF F wH (sO S, 0) m) → EV Γ MX8_write d 55 [some (.ref (ad 0)), none, none, some (.int (nI (cntF F))), some (.int (nI i))] [] τ' (fun oc σ' => ansO [IOB, NSE, ARE] (0, nI (foldF F wH (sO S, 0) 4096).2, stW S (foldF F wH (sO S, 0) 4096)) oc ∧ StepC Γ σ own ad c w (stW S (foldF F wH (sO S, 0) 4096)) σ') := by
        refine upto _ ?_ (fun i hi ih => ?_)
        · intro τ' a Rt Ft c1 v1 ha
          have ea := ha 4096 (Nat.le_refl _) rfl
          subst ea
          have e4 : gi τ' (ad 0) 4 = nI (foldF F wH (sO S, 0) 4096).2 := Rt.2.2.1.2.2.1
          exact gX8_write_55 ⟨fun _ => ⟨Rt.x0, by rw [e4]; rfl, fin τ' Rt Ft c1 v1⟩, fun y => absurd (nI_le (Nat.le_refl _) (by omega)) y⟩
        · intro τ' a Rt Ft c1 v1 ha
          obtain ⟨x, x1, x2, x3, x4, x5⟩ := hL i hi
          have ea := ha x (by omega) x4
          have la : a.2 = wL F x := by rw [ea]; exact wF_len F (sO S) x (by omega)
          have p0 := wL_pos F x4
          have ls : wL F (x + 1) = wL F x + (if wL F x = 0 then 0 else 1) + max 1 (popN 12 x) := by
            unfold wL
            rw [fold_y x2]
          have lt2 := wL_mono F (show x + 1 ≤ 4096 by omega)
          have g4 : gi τ' (ad 4) = g := by rw [Ft.gi nIN]; exact h4
          have set : ∀ τ2 a2, RepC Γ τ2 own ad (stW S a2) c w → FR (IN ad) σ12 τ2 → hc τ2 = hc σ12 → hv τ2 = hv σ12 → a2 = (if a.2 = 0 then a else put1 a 43) → EV Γ MX8_write d 80 [some (.ref (ad 0)), none, none, some (.int (nI (cntF F))), some (.int (nI i))] [] τ2 (fun oc σ' => ansO [IOB, NSE, ARE] (0, nI (foldF F wH (sO S, 0) 4096).2, stW S (foldF F wH (sO S, 0) 4096)) oc ∧ StepC Γ σ own ad c w (stW S (foldF F wH (sO S, 0) 4096)) σ') := by
            intro τ2 a2 R2 F2 c2 v2 e2
            have g42 : gi τ2 (ad 4) = g := by rw [F2.gi nIN]; exact h4
            have l2 : a2.2 = wL F x + (if wL F x = 0 then 0 else 1) := by
              rw [e2, ← la]
              split
              · rfl
              · rfl
            have C1' := R2.2.1
            refine gX8_write_80 ⟨R2.x0, ad 4, C1'.2.2.2.2.1, 4096, C1'.alg.2.2.2.2.2.1, i, IXn (by omega) (by omega), ?_⟩
            rw [g42, x3]
            refine CV.of (d2 := 2) (writeSet_R R2 x1 (by omega) (by omega)) (by omega) (fun σ3 W3 h => ?_)
            obtain ⟨R3, F3, c3, v3⟩ := h
            rw [nI_1]
            refine ih σ3 (wM x a2) R3 (F2.trans F3) (by omega) (by omega) (fun m hm e => ?_)
            rw [fold_ct (e.trans x5.symm), fold_y x2, ← ea, e2]; rfl
          refine gX8_write_55 ⟨fun y => absurd ((nI_leI (by omega) (by omega)).mp y) (by omega), fun _ => ⟨fun y => absurd ((c4096le (by omega)).mp y) (by omega), fun _ => ⟨fun y => ?_, fun y => ⟨Rt.x0, ?_⟩⟩⟩⟩
          · have i0 : i = 0 := (nI_le0 (by omega)).mp y
            exact set τ' a Rt Ft c1 v1 (if_pos (by omega)).symm
          · have i0 : i ≠ 0 := fun t => y ((nI_le0 (by omega)).mpr t)
            have nz : ¬ a.2 = 0 := by omega
            rw [if_neg (by omega)] at ls
            refine CV.of (d2 := 0) (out_R Rt (by omega)) (by omega) (fun σ3 W3 h => ?_)
            obtain ⟨R3, F3, c3, v3⟩ := h
            exact set σ3 _ R3 (Ft.trans F3) (by omega) (by omega) (if_neg nz).symm
      refine L 0 (Nat.zero_le _) σ17 (sO S, 0) R17 F17 c17 v17 (fun m hm e => ?_)
      rw [fold_ct (b := 0) e]; rfl
  · have wl : 1000 < wL F 4096 := by
      by_cases z : cntF F = 0
      · rw [if_pos z] at y; exact absurd (by decide) y
      · rw [if_neg z] at y
        rcases Nat.lt_or_ge 1000 (wL F 4096) with t | t
        · exact t
        · exact absurd ((nI_leI (b := 1000) (by omega) (by omega)).mpr t) y
    rw [pre, if_pos wl]
    exact ⟨by omega, rfl, StepC.scr R W (F1.trans (FR.thr _ _)) (by rw [hc_thr]; omega) (by rw [hv_thr]; omega)⟩
end WR2
