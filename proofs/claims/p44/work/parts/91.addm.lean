/-! ROWS of FamilyStore: operations that make a family of families. -/
/-- what a call answers: how it ends (0, or which exception), its value, the state behind it -/
abbrev AnsT : Type := Nat × Int32 × StT
def ansO (l : List String) (A : AnsT) (oc : Oc) : Prop := if A.1 = 0 then oc = .inl (some (.int A.2.1)) else oc = .inr (l.getD (A.1 - 1) "")
def CLM (Γ : Gm) (d : Nat) (M : MI) (vs : List Value) (σ : AH) (own ad : Nat → Nat) (c w : Nat) (l : List String) (A : AnsT) : Prop := RUN Γ d M vs σ (fun oc σ' => ansO l A oc ∧ StepC Γ σ own ad c w A.2.2 σ')
noncomputable def aTwo (o : Nat) (S : StT) (f g : Int32) : AnsT := if fcd S f = 1 ∨ fcd S g = 1 then (1, 0, S) else if fcd S f = 2 ∨ fcd S g = 2 then (2, 0, S) else if sN S = 200 then (3, 0, S) else if bd (isDv o ∧ cntF (sF S (ixF g)) = 0) = true then (4, 0, S) else (0, nI (sN S), stA S (opF o (sF S (ixF f)) (sF S (ixF g))))
noncomputable def aOne (o : Nat) (S : StT) (f : Int32) : AnsT := if fcd S f = 1 then (1, 0, S) else if fcd S f = 2 then (2, 0, S) else if sN S = 200 then (3, 0, S) else (0, nI (sN S), stA S (opF o (sF S (ixF f)) (sF S (ixF f))))
section AM
variable {Γ : Gm} {d : Nat} {σ : AH} {own ad : Nat → Nat} {S : StT} {c w : Nat}
theorem add_call {τ : AH} {own1 : Nat → Nat} {q w1 : Nat} {K : Int32 → AH → Prop} {KX : String → AH → Prop} (R1 : RepC Γ τ own1 ad S c w1) (ag : ∀ a, a < lo Γ + hc σ → own1 a = own a) (F : FR (RP CW own (lo Γ + hc σ)) σ τ) (hq : hs τ q = some (23, 64)) (oq : own1 q = 99) (qb : lo Γ + hc σ ≤ q) (hn : sN S < 200) (h1 : hc τ + w1 ≤ hc σ + w + 3) (h2 : hv τ + 64 * w1 ≤ hv σ + 64 * w + 250) (hd : 10 ≤ d) (k : ∀ σ', StepC Γ σ own ad c w (stA S (fam (gj τ q))) σ' → K (nI (sN S)) σ') : CI Γ d MX8_addFamily [.ref (ad 0), .ref q] τ K KX := by
  refine CI.of (d2 := 9) (addF_R R1 hq oq hn (by omega)) (by omega) (fun r σ' _ z => ?_)
  obtain ⟨rfl, own', c', R2, ho, F2, x1, x2, x3⟩ := z
  have hle := F.1
  refine k σ' ⟨own', c', w1, R2, fun a ha => ?_, F.trans (F2.mono (fun a ha => ?_)), by omega, by omega, x3⟩
  · rw [ho a (by omega) (by omega)]; exact ag a ha
  · rcases ha with z | z
    · rcases Nat.lt_or_ge a (lo Γ + hc σ) with y | y
      · exact Or.inl (by rw [← ag a y]; exact z)
      · exact Or.inr y
    · exact Or.inr (by omega)
/-- a row made: a copy, or empty -/
theorem RepC.fresh {σ' : AH} {q : Nat} (R : RepC Γ σ own ad S c w) (hwf : WF Γ σ) (F : FR (RP (fun _ => False) own (lo Γ + hc σ)) σ σ') (qb : lo Γ + hc σ ≤ q) : RepC Γ σ' (up own q 99) ad S c w :=
  R.keep hwf F (fun r h => h.elim) (fun a ha _ => up_ne _ _ (by omega))
/-- scratch written, and the row in work -/
theorem RepC.work {σ' : AH} {q : Nat} (R : RepC Γ σ own ad S c w) (hwf : WF Γ σ) (oq : own q = 99) (h : Chg (aI (ad 4) (ad 5)) (aJ (ad 7) (ad 8) q) σ σ') : RepC Γ σ' own ad S c w ∧ FR (RP (fun r => SW r ∨ r = 99) own (lo Γ + hc σ)) σ σ' := by
  have O := R.1
  have F : FR (RP (fun r => SW r ∨ r = 99) own (lo Γ + hc σ)) σ σ' := FR.chg h (fun a ha => by
    rcases ha with z | z
    · exact Or.inl (Or.inl (by rw [z, (O 4 (by omega)).1]; unfold SW; omega))
    · exact Or.inl (Or.inl (by rw [z, (O 5 (by omega)).1]; unfold SW; omega))) (fun a ha => by
    rcases ha with z | z | z
    · exact Or.inl (Or.inl (by rw [z, (O 7 (by omega)).1]; unfold SW; omega))
    · exact Or.inl (Or.inl (by rw [z, (O 8 (by omega)).1]; unfold SW; omega))
    · exact Or.inl (Or.inr (by rw [z]; exact oq)))
  exact ⟨R.keep hwf F (fun r h => h.imp id (fun z => by omega)) (fun _ _ _ => rfl), F⟩
theorem chg_fr {τ τ' : AH} {q : Nat} (O : OWc own ad (lo Γ + hc σ)) (qb : lo Γ + hc σ ≤ q) (h : Chg (aI (ad 4) (ad 5)) (aJ (ad 7) (ad 8) q) τ τ') : FR (RP SW own (lo Γ + hc σ)) τ τ' := FR.chg h (fun a ha => by
    rcases ha with z | z
    · exact Or.inl (by rw [z, (O 4 (by omega)).1]; unfold SW; omega)
    · exact Or.inl (by rw [z, (O 5 (by omega)).1]; unfold SW; omega)) (fun a ha => by
    rcases ha with z | z | z
    · exact Or.inl (by rw [z, (O 7 (by omega)).1]; unfold SW; omega)
    · exact Or.inl (by rw [z, (O 8 (by omega)).1]; unfold SW; omega)
    · exact Or.inr (by omega))
theorem FR.cw {W : Nat → Prop} {b : Nat} {τ τ' : AH} (F : FR (RP W own b) τ τ') (h : ∀ r, W r → CW r) : FR (RP CW own b) τ τ' := F.mono (fun a ha => ha.imp (fun z => h _ z) id)
theorem addOfTwo_R {f g : Int32} {o : Nat} (R : RepC Γ σ own ad S c w) (h1 : 1 ≤ o) (h9 : o ≤ 9) (hd : 10 ≤ d) : CLM Γ d MX8_addOfTwo [.ref (ad 0), .int f, .int g, .int (nI (clsOp o))] σ own ad c w [IOB, NSE, ISE, ARE] (aTwo o S f g) := by
  refine RUN.wf (fun W => ?_)
  have R' := R
  obtain ⟨O, x1, -⟩ := R'
  obtain ⟨g6, n2⟩ := R.n
  obtain ⟨k1, k2, -, k4⟩ := clsB_k o (by omega) h1
  refine eX8_addOfTwo ⟨R.x0, cc_call R (fun e => ?_) (fun e1 => ⟨R.x0, cc_call R (fun e => ?_) (fun e2 => ⟨R.x0, fo_call R (fun e => absurd e e1) (fun e => ?_) (fun fo A => ⟨R.x0, fo_call R (fun e => absurd e e2) (fun e => ?_) (fun go B => ⟨R.x0, room_call R (fun e => ?_) (fun hn => ?_) (by omega)⟩) (by omega)⟩) (by omega)⟩) (by omega)⟩) (by omega)⟩
  · have hA : aTwo o S f g = (1, 0, S) := if_pos (Or.inl e)
    rw [hA]; exact ⟨rfl, StepC.thr R W⟩
  · have hA : aTwo o S f g = (1, 0, S) := if_pos (Or.inr e)
    rw [hA]; exact ⟨rfl, StepC.thr R W⟩
  · have hA : aTwo o S f g = (2, 0, S) := (if_neg (fun z => z.elim e1 e2)).trans (if_pos (Or.inl e))
    rw [hA]; exact ⟨rfl, StepC.thr R W⟩
  · have hA : aTwo o S f g = (2, 0, S) := (if_neg (fun z => z.elim e1 e2)).trans (if_pos (Or.inr e))
    rw [hA]; exact ⟨rfl, StepC.thr R W⟩
  · obtain ⟨ra, ka, a0, -⟩ := A
    obtain ⟨rb, kb, b0, -⟩ := B
    have hA : aTwo o S f g = (3, 0, S) := (if_neg (fun z => z.elim e1 e2)).trans ((if_neg (fun z => by omega)).trans (if_pos e))
    rw [hA]; exact ⟨rfl, StepC.thr R W⟩
  · obtain ⟨ra, ka, a0, a1, a2, a3, a4, a5, a6, a7, a8, a9, a10, a11, a12, a13, a14, a15, a16⟩ := A
    obtain ⟨rb, kb, b0, b1, b2, b3, b4, b5, b6, b7, b8, b9, b10, b11, b12, b13, b14, b15, b16⟩ := B
    have pre : aTwo o S f g = if bd (isDv o ∧ cntF (sF S (ixF g)) = 0) = true then (4, 0, S) else (0, nI (sN S), stA S (opF o (sF S (ixF f)) (sF S (ixF g)))) := (if_neg (fun z => z.elim e1 e2)).trans ((if_neg (fun z => by omega)).trans (if_neg (by omega)))
    have le := cntF_le (sF S (ixF g))
    have h48 : isDv o → cntF (sF S (ixF g)) = 0 → EV Γ MX8_addOfTwo d 48 [none, none, none, none, none, none, none] [] σ (fun oc σ' => ansO [IOB, NSE, ISE, ARE] (aTwo o S f g) oc ∧ StepC Γ σ own ad c w (aTwo o S f g).2.2 σ') := by
      intro y1 y2
      have hA : aTwo o S f g = (4, 0, S) := pre.trans (if_pos (bd_true.mpr ⟨y1, y2⟩))
      rw [hA]; exact gX8_addOfTwo_48 ⟨by omega, rfl, StepC.thr R W⟩
    have h56 : ¬ (isDv o ∧ cntF (sF S (ixF g)) = 0) → EV Γ MX8_addOfTwo d 56 [some (.ref (ad 0)), none, none, some (.int (nI (clsOp o))), some (.ref fo), some (.ref go), none] [] σ (fun oc σ' => ansO [IOB, NSE, ISE, ARE] (aTwo o S f g) oc ∧ StepC Γ σ own ad c w (aTwo o S f g).2.2 σ') := by
      intro nd
      have hA : aTwo o S f g = (0, nI (sN S), stA S (opF o (sF S (ixF f)) (sF S (ixF g)))) := pre.trans (if_neg (by rw [bd_false.mpr nd]; decide))
      rw [hA]
      refine gX8_addOfTwo_56 ⟨a5, ra, a6, CR.of (d2 := 2) (copyJ_R 64 a7 (by omega) (by omega) (by omega) (by omega)) (by omega) (fun r σ4 W4 z => ?_)⟩
      obtain ⟨rfl, ff, e4, f1, -⟩ := z
      generalize hq : lo Γ + hc σ = q at e4
      have F4 : FR (RP (fun _ => False) own (lo Γ + hc σ)) σ σ4 := by
        rw [e4, ← hq]; exact (FR.mk 23 64 W (Or.inr (Nat.le_refl _))).trans (FR.rowJ _ _ (Or.inr (Nat.le_refl _)))
      have R4 := R.fresh (q := q) W F4 (by omega)
      have q4 : hs σ4 q = some (23, 64) := by rw [e4]; exact hs_mk_s _ _ _ _
      have gq : gj σ4 q = ff := by rw [e4, gj_row]
      have nr : ∀ a, a < q → ¬ RP (fun _ => False) own (lo Γ + hc σ) a := fun a h z => z.elim id (fun z => by omega)
      refine ⟨q, rfl, F4.gh R.x0, ad 6, by rw [F4.gr (nr _ (by rw [← hq]; exact (O 0 (by omega)).2))]; exact x1.2.2.2.2.2.2.1, F4.gh b5, rb, by rw [F4.gr (nr _ (by omega))]; exact b6, R4.2.1.2.2.2.2.2.2.2.2.2.2.2.2.2.2.2.2.1, ?_⟩
      have A4 := R4.2.1.2.2.2.2.2.2.2.2.2.2.2.2.2.2.2.2
      have brow : gj σ4 rb = gj σ rb := F4.gj (nr _ (by omega))
      have arow : fam (gj σ4 q) = sF S (ixF f) := by
        rw [gq, ← a8]
        exact fam_ext (fam_sup _) (fun m hm => by rw [fam_lt _ hm]; exact bs_congr f1 hm)
      refine CV.of (d2 := 8) (applyToTwo_R A4 q4 (F4.gh b7) (by omega) (by have := (O 7 (by omega)).2; omega) (by have := (O 8 (by omega)).2; omega) (by omega) (fun z => ?_) k1 (fun z => ?_) (by omega)) (by omega) (fun σ12 W12 z => ?_)
      · rw [z, (O 7 (by omega)).1] at b14; omega
      · rw [brow]
        apply cntF_fam.mpr
        rw [b8]
        exact fun y => nd ⟨k2.mp z, y⟩
      · obtain ⟨z1, z2⟩ := z
        obtain ⟨R12, -⟩ := R4.work W4 (up_same _ _ _) z1
        refine ⟨R12.x0, add_call (w := w) R12 (fun a ha => up_ne _ _ (by omega)) ((F4.cw (fun r h => h.elim)).trans ((chg_fr O (by omega) z1).cw (fun r h => h.cw))) (z1.gh q4) (up_same _ _ _) (by omega) hn (by rw [z1.1, e4]; show hc σ + 1 + w ≤ _; omega) (by rw [z1.2.1, e4]; show hv σ + 64 + 64 * w ≤ _; omega) (by omega) (fun σ' st => ⟨rfl, ?_⟩)⟩
        have e : fam (gj σ12 q) = opF o (sF S (ixF f)) (sF S (ixF g)) := by
          rw [opF_2 h1 h9 z2, arow, brow, b8]
        rw [e] at st; exact st
    refine ⟨b5, ?_⟩
    rw [b9]
    refine ⟨fun y => h56 (fun z => y (by rw [z.2]; rfl)), fun y => ?_⟩
    have y := (nI_eq (a := cntF (sF S (ixF g))) (b := 0) (by omega) (by omega)).mp y
    refine ⟨fun z => h48 (k4.mp (Or.inl z)) y, fun z => ⟨fun v => h56 (fun u => ?_), fun v => h48 (k4.mp (Or.inr v)) y⟩⟩
    rcases k4.mpr u.1 with t | t
    · exact z t
    · exact v t
theorem addOfOne_R {f : Int32} {o : Nat} (R : RepC Γ σ own ad S c w) (h1 : 10 ≤ o) (h9 : o ≤ 13) (hd : 10 ≤ d) : CLM Γ d MX8_addOfOne [.ref (ad 0), .int f, .int (nI (clsOp o))] σ own ad c w [IOB, NSE, ISE] (aOne o S f) := by
  refine RUN.wf (fun W => ?_)
  have R' := R
  obtain ⟨O, x1, -⟩ := R'
  obtain ⟨g6, n2⟩ := R.n
  obtain ⟨k1, -⟩ := clsU_k o (by omega) h1
  refine eX8_addOfOne ⟨R.x0, fo_call R (fun e => ?_) (fun e => ?_) (fun fo A => ⟨R.x0, room_call R (fun e => ?_) (fun hn => ?_) (by omega)⟩) (by omega)⟩
  · have hA : aOne o S f = (1, 0, S) := if_pos e
    rw [hA]; exact ⟨rfl, StepC.thr R W⟩
  · have hA : aOne o S f = (2, 0, S) := (if_neg (by omega)).trans (if_pos e)
    rw [hA]; exact ⟨rfl, StepC.thr R W⟩
  · obtain ⟨ra, ka, a0, -⟩ := A
    have hA : aOne o S f = (3, 0, S) := (if_neg (by omega)).trans ((if_neg (by omega)).trans (if_pos e))
    rw [hA]; exact ⟨rfl, StepC.thr R W⟩
  · obtain ⟨ra, ka, a0, a1, a2, a3, a4, a5, a6, a7, a8, a9, a10, a11, a12, a13, a14, a15, a16⟩ := A
    have hA : aOne o S f = (0, nI (sN S), stA S (opF o (sF S (ixF f)) (sF S (ixF f)))) := (if_neg (by omega)).trans ((if_neg (by omega)).trans (if_neg (by omega)))
    rw [hA]
    refine ⟨a5, ra, a6, CR.of (d2 := 2) (copyJ_R 64 a7 (by omega) (by omega) (by omega) (by omega)) (by omega) (fun r σ4 W4 z => ?_)⟩
    obtain ⟨rfl, ff, e4, f1, -⟩ := z
    generalize hq : lo Γ + hc σ = q at e4
    have F4 : FR (RP (fun _ => False) own (lo Γ + hc σ)) σ σ4 := by
      rw [e4, ← hq]; exact (FR.mk 23 64 W (Or.inr (Nat.le_refl _))).trans (FR.rowJ _ _ (Or.inr (Nat.le_refl _)))
    have R4 := R.fresh (q := q) W F4 (by omega)
    have q4 : hs σ4 q = some (23, 64) := by rw [e4]; exact hs_mk_s _ _ _ _
    have gq : gj σ4 q = ff := by rw [e4, gj_row]
    have nr : ∀ a, a < q → ¬ RP (fun _ => False) own (lo Γ + hc σ) a := fun a h z => z.elim id (fun z => by omega)
    have A4 := R4.2.1.2.2.2.2.2.2.2.2.2.2.2.2.2.2.2.2
    refine ⟨q, rfl, F4.gh R.x0, ad 6, by rw [F4.gr (nr _ (by rw [← hq]; exact (O 0 (by omega)).2))]; exact x1.2.2.2.2.2.2.1, A4.1, ?_⟩
    have arow : fam (gj σ4 q) = sF S (ixF f) := by
      rw [gq, ← a8]
      exact fam_ext (fam_sup _) (fun m hm => by rw [fam_lt _ hm]; exact bs_congr f1 hm)
    refine CV.of (d2 := 6) (applyToOne_R A4 q4 (by have := (O 7 (by omega)).2; omega) (by have := (O 8 (by omega)).2; omega) k1 (by omega)) (by omega) (fun σ12 W12 z => ?_)
    obtain ⟨z1, z2⟩ := z
    obtain ⟨R12, -⟩ := R4.work W4 (up_same _ _ _) z1
    refine ⟨R12.x0, add_call (w := w) R12 (fun a ha => up_ne _ _ (by omega)) ((F4.cw (fun r h => h.elim)).trans ((chg_fr O (by omega) z1).cw (fun r h => h.cw))) (z1.gh q4) (up_same _ _ _) (by omega) hn (by rw [z1.1, e4]; show hc σ + 1 + w ≤ _; omega) (by rw [z1.2.1, e4]; show hv σ + 64 + 64 * w ≤ _; omega) (by omega) (fun σ' st => ⟨rfl, ?_⟩)⟩
    have e : fam (gj σ12 q) = opF o (sF S (ixF f)) (sF S (ixF f)) := by
      rw [opF_1 h1 h9 z2, arow]
    rw [e] at st; exact st
end AM

