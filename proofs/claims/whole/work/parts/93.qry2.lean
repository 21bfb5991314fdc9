/-! ROWS of FamilyStore: more questions. -/
noncomputable def aSetAt (S : StT) (f i : Int32) : AnsT := if fcd S f = 1 then (1, 0, S) else if fcd S f = 2 then (2, 0, S) else if i < 0 ∨ nI (cntF (sF S (ixF f))) ≤ i then (2, 0, S) else (0, nI (kthF (sF S (ixF f)) (ixF i)), S)
def vLeast (k : Nat → Int32) (F : Nat → Bool) : Int32 := foldF F (fun n m => if csum k 12 m < n then csum k 12 m else n) 12000 4096
def vSum (k : Nat → Int32) (F : Nat → Bool) : Int32 := foldF F (fun n m => n + csum k 12 m) 0 4096
def vMean (k : Nat → Int32) (F : Nat → Bool) : UInt64 := FP.ddiv (FP.i2d (vSum k F)) (FP.i2d (nI (cntF F)))
section QY
variable {Γ : Gm} {d : Nat} {σ : AH} {own ad : Nat → Nat} {S : StT} {c w : Nat}
theorem countOfSize_R {f z : Int32} (R : RepC Γ σ own ad S c w) (hd : 9 ≤ d) : CLM Γ d MX8_countOfSize [.ref (ad 0), .int f, .int z] σ own ad c w [IOB, NSE] (aQ S f (vSize z)) := by
  refine RUN.wf (fun W => eX8_countOfSize ⟨R.x0, fo_call R (fun e => ?_) (fun e => ?_) (fun fo A => ?_) (by omega)⟩)
  · rw [aQ_1 e]; exact ⟨rfl, StepC.thr R W⟩
  · rw [aQ_2 e]; exact ⟨rfl, StepC.thr R W⟩
  · obtain ⟨ra, ka, a0, a1, a2, a3, a4, a5, a6, a7, a8, a9, a10, a11, a12, a13, a14, a15, a16⟩ := A
    have Al := R.2.1.alg
    rw [aQ_0 a0]
    refine ⟨a5, ra, a6, R.x0, ad 4, R.2.1.2.2.2.2.1, list_call R a7 (fun g hl => ?_) (by omega)⟩
    have F1 := fr_first R (f := g) rfl
    rw [a8]
    have le := cntF_le (sF S (ixF f))
    have fin : ∀ v : Int32, v = vSize z (sF S (ixF f)) → ansO [IOB, NSE] (0, vSize z (sF S (ixF f)), S) (.inl (some (.int v))) ∧ StepC Γ σ own ad c w S (rowI σ (ad 4) g) := fun v hv' => ⟨by rw [hv']; exact rfl, StepC.scr R W F1 (Nat.le_add_right _ _) (Nat.le_add_right _ _)⟩
    have L : ∀ i, i ≤ cntF (sF S (ixF f)) → ∀ v : Int32, (∀ m, m ≤ 4096 → fb_ct (sF S (ixF f)) m = i → v = foldF (sF S (ixF f)) (fun n m => if nI (popN 12 m) = z then n + 1 else n) 0 m) → EV Γ MX8_countOfSize d 25 [some (.ref (ad 0)), none, some (.int z), none, some (.int (nI (cntF (sF S (ixF f))))), some (.int v), some (.int (nI i))] [] (rowI σ (ad 4) g) (fun oc σ' => ansO [IOB, NSE] (0, vSize z (sF S (ixF f)), S) oc ∧ StepC Γ σ own ad c w S σ') := by
      refine upto _ ?_ (fun i hi ih => ?_)
      · intro v hv'
        exact gX8_countOfSize_25 ⟨fun _ => fin v (hv' 4096 (Nat.le_refl _) rfl), fun y => absurd (nI_le (Nat.le_refl _) (by omega)) y⟩
      · intro v hv'
        rw [← a8] at hi
        obtain ⟨x, x1, x2, x3, x4, x5⟩ := lst_step hl hi
        rw [a8] at hi x2 x4 x5
        refine gX8_countOfSize_25 ⟨fun y => absurd ((nI_leI (by omega) (by omega)).mp y) (by omega), fun _ => ⟨fun y => absurd ((c4096le (by omega)).mp y) (by omega), fun _ => ⟨R.x0, ad 4, R.2.1.2.2.2.2.1, 4096, Al.2.2.2.2.2.1, i, IXn (by omega) (by omega), ?_⟩⟩⟩
        rw [gi_row, x3]
        refine CI.of (d2 := 0) (bitc32_R x (by omega)) (by omega) (fun r σ1 _ q => ?_)
        obtain ⟨rfl, rfl⟩ := q
        rw [popN_12 x1, nI_1]
        have vx := hv' x (by omega) x4
        refine ⟨fun y => ih _ (fun m hm e => ?_), fun y => ih _ (fun m hm e => ?_)⟩
        · rw [fold_ct (e.trans x5.symm), fold_y x2, if_neg y]; exact vx
        · rw [fold_ct (e.trans x5.symm), fold_y x2, if_pos y, vx]
    refine L 0 (Nat.zero_le _) 0 (fun m hm e => ?_)
    rw [fold_ct (b := 0) e]; rfl
theorem countWith_R {f z : Int32} (R : RepC Γ σ own ad S c w) (hd : 9 ≤ d) : CLM Γ d MX8_countWith [.ref (ad 0), .int f, .int z] σ own ad c w [IOB, NSE] (aQE S f z (vWith (ixF z))) := by
  refine RUN.wf (fun W => eX8_countWith ⟨R.x0, cc_call R (fun e => ?_) (fun e1 => ⟨R.x0, el_call (fun e => ?_) (fun e2 => ⟨R.x0, fo_call R (fun e => absurd e e1) (fun e => ?_) (fun fo A => ?_) (by omega)⟩) (by omega)⟩) (by omega)⟩)
  · have hA : aQE S f z (vWith (ixF z)) = (1, 0, S) := if_pos (Or.inl e)
    rw [hA]; exact ⟨rfl, StepC.thr R W⟩
  · have hA : aQE S f z (vWith (ixF z)) = (1, 0, S) := if_pos (Or.inr (bd_false.mpr e))
    rw [hA]; exact ⟨rfl, StepC.thr R W⟩
  · have hA : aQE S f z (vWith (ixF z)) = (2, 0, S) := (if_neg (fun y => y.elim e1 (fun y => bd_false.mp y e2))).trans (if_pos e)
    rw [hA]; exact ⟨rfl, StepC.thr R W⟩
  · obtain ⟨ra, ka, a0, a1, a2, a3, a4, a5, a6, a7, a8, a9, a10, a11, a12, a13, a14, a15, a16⟩ := A
    have hA : aQE S f z (vWith (ixF z)) = (0, vWith (ixF z) (sF S (ixF f)), S) := (if_neg (fun y => y.elim e1 (fun y => bd_false.mp y e2))).trans (if_neg (by omega))
    obtain ⟨z1, z2⟩ := isE_ix e2
    have Al := R.2.1.alg
    rw [hA]
    refine ⟨a5, ra, a6, R.x0, ad 4, R.2.1.2.2.2.2.1, list_call R a7 (fun g hl => ?_) (by omega)⟩
    have F1 := fr_first R (f := g) rfl
    rw [a8]
    have le := cntF_le (sF S (ixF f))
    have fin : ∀ v : Int32, v = vWith (ixF z) (sF S (ixF f)) → ansO [IOB, NSE] (0, vWith (ixF z) (sF S (ixF f)), S) (.inl (some (.int v))) ∧ StepC Γ σ own ad c w S (rowI σ (ad 4) g) := fun v hv' => ⟨by rw [hv']; exact rfl, StepC.scr R W F1 (Nat.le_add_right _ _) (Nat.le_add_right _ _)⟩
    have L : ∀ i, i ≤ cntF (sF S (ixF f)) → ∀ v : Int32, (∀ m, m ≤ 4096 → fb_ct (sF S (ixF f)) m = i → v = foldF (sF S (ixF f)) (fun n m => n + b2i (m.testBit (ixF z))) 0 m) → EV Γ MX8_countWith d 35 [some (.ref (ad 0)), none, some (.int z), none, some (.int (nI (cntF (sF S (ixF f))))), some (.int v), some (.int (nI i))] [] (rowI σ (ad 4) g) (fun oc σ' => ansO [IOB, NSE] (0, vWith (ixF z) (sF S (ixF f)), S) oc ∧ StepC Γ σ own ad c w S σ') := by
      refine upto _ ?_ (fun i hi ih => ?_)
      · intro v hv'
        exact gX8_countWith_35 ⟨fun _ => fin v (hv' 4096 (Nat.le_refl _) rfl), fun y => absurd (nI_le (Nat.le_refl _) (by omega)) y⟩
      · intro v hv'
        rw [← a8] at hi
        obtain ⟨x, x1, x2, x3, x4, x5⟩ := lst_step hl hi
        rw [a8] at hi x2 x4 x5
        refine gX8_countWith_35 ⟨fun y => absurd ((nI_leI (by omega) (by omega)).mp y) (by omega), fun _ => ⟨fun y => absurd ((c4096le (by omega)).mp y) (by omega), fun _ => ⟨R.x0, ad 4, R.2.1.2.2.2.2.1, 4096, Al.2.2.2.2.2.1, i, IXn (by omega) (by omega), ?_⟩⟩⟩
        have eb : (nI x >>> (z &&& 31)) &&& 1 = b2i (x.testBit (ixF z)) := by
          rw [z2, show ixF (nI (ixF z)) = ixF z from pk_tn (by omega)]
          exact n_bit (by omega) (by omega)
        rw [gi_row, x3, eb, nI_1]
        have vx := hv' x (by omega) x4
        refine ih _ (fun m hm e => ?_)
        rw [fold_ct (e.trans x5.symm), fold_y x2, vx]
    refine L 0 (Nat.zero_le _) 0 (fun m hm e => ?_)
    rw [fold_ct (b := 0) e]; rfl
theorem inside_call {ra rb : Nat} {K : Int32 → AH → Prop} {KX : String → AH → Prop} (ha : hs σ ra = some (23, 64)) (hb : hs σ rb = some (23, 64)) (k : K (vSub (fam (gj σ ra)) (fam (gj σ rb))) σ) (hd : 1 ≤ d) : CI Γ d MX7_isInside [.ref ra, .ref rb] σ K KX := by
  have key : (∀ x, x < 4096 → bs (gj σ ra) x = true → bs (gj σ rb) x = true) ↔ ∀ x, fam (gj σ ra) x = true → fam (gj σ rb) x = true := by
    constructor
    · intro h x hx
      have := fam_sup _ x hx
      rw [fam_lt _ this] at hx ⊢
      exact h x this hx
    · intro h x hx hb
      have := h x (by rw [fam_lt _ hx]; exact hb)
      rw [fam_lt _ hx] at this; exact this
  refine CI.of (d2 := 0) (isInside_R ha hb (by omega) (by omega)) (by omega) (fun r σ1 _ q => ?_)
  obtain ⟨e, q⟩ := q
  subst e
  unfold vSub at k
  rcases q with ⟨rfl, q⟩ | ⟨rfl, q⟩
  · rw [bd_true.mpr (key.mp q)] at k; exact k
  · rw [bd_false.mpr (fun z => q (key.mpr z))] at k; exact k
theorem aQ2_0 {f g : Int32} {v : (Nat → Bool) → (Nat → Bool) → Int32} (h : fcd S f = 0) (h2 : fcd S g = 0) : aQ2 S f g v = (0, v (sF S (ixF f)) (sF S (ixF g)), S) := (if_neg (by omega)).trans (if_neg (by omega))
theorem isPartOf_R {f g : Int32} (R : RepC Γ σ own ad S c w) (hd : 9 ≤ d) : CLM Γ d MX8_isPartOf [.ref (ad 0), .int f, .int g] σ own ad c w [IOB, NSE] (aQ2 S f g vSub) := by
  refine RUN.wf (fun W => eX8_isPartOf ⟨R.x0, cc_call R (fun e => ?_) (fun e1 => ⟨R.x0, cc_call R (fun e => ?_) (fun e2 => ⟨R.x0, fo_call R (fun e => absurd e e1) (fun e => ?_) (fun fo A => ⟨R.x0, fo_call R (fun e => absurd e e2) (fun e => ?_) (fun go B => ?_) (by omega)⟩) (by omega)⟩) (by omega)⟩) (by omega)⟩)
  · have hA : aQ2 S f g vSub = (1, 0, S) := if_pos (Or.inl e)
    rw [hA]; exact ⟨rfl, StepC.thr R W⟩
  · have hA : aQ2 S f g vSub = (1, 0, S) := if_pos (Or.inr e)
    rw [hA]; exact ⟨rfl, StepC.thr R W⟩
  · have hA : aQ2 S f g vSub = (2, 0, S) := (if_neg (fun z => z.elim e1 e2)).trans (if_pos (Or.inl e))
    rw [hA]; exact ⟨rfl, StepC.thr R W⟩
  · have hA : aQ2 S f g vSub = (2, 0, S) := (if_neg (fun z => z.elim e1 e2)).trans (if_pos (Or.inr e))
    rw [hA]; exact ⟨rfl, StepC.thr R W⟩
  · obtain ⟨ra, ka, a0, a1, a2, a3, a4, a5, a6, a7, a8, a9, a10, a11, a12, a13, a14, a15, a16⟩ := A
    obtain ⟨rb, kb, b0, b1, b2, b3, b4, b5, b6, b7, b8, b9, b10, b11, b12, b13, b14, b15, b16⟩ := B
    rw [aQ2_0 a0 b0]
    refine ⟨a5, ra, a6, b5, rb, b6, inside_call a7 b7 ?_ (by omega)⟩
    rw [a8, b8]
    exact ⟨nar01 _, rfl, StepC.refl R W⟩
/-- two families alike, told by their counts and one being inside the other -/
theorem vEq_of (F G : Nat → Bool) (sF' : sup F) (sG : sup G) : vEq F G = if cntF F = cntF G then vSub F G else 0 := by
  unfold vEq vSub
  by_cases e : cntF F = cntF G
  · rw [if_pos e]
    congr 1
    refine bd_congr ⟨fun z x hx => by rw [← z]; exact hx, fun z => ?_⟩
    funext x
    rcases Nat.lt_or_ge x 4096 with hx | hx
    · cases q : F x
      · cases q2 : G x
        · rfl
        · exfalso
          have h1 : fb_ct F 4096 + 1 ≤ fb_ct G 4096 := by
            have := fb_ct_upd F true hx
            rw [q, if_neg (by decide), if_pos rfl, Nat.add_zero] at this
            have le := fb_ct_sub (p := fun k => if k = x then true else F k) (q := G) (n := 4096) (fun k _ hk => by
              by_cases y : k = x
              · rw [y]; exact q2
              · rw [if_neg y] at hk; exact z k hk)
            omega
          unfold cntF at e
          omega
      · exact (z x q).symm
    · cases q : F x
      · cases q2 : G x
        · rfl
        · exact absurd (sG x q2) (by omega)
      · exact absurd (sF' x q) (by omega)
  · rw [if_neg e, bd_false.mpr (fun z => e (by rw [z]))]; rfl
theorem areEqual_R {f g : Int32} (R : RepC Γ σ own ad S c w) (hd : 9 ≤ d) : CLM Γ d MX8_areEqual [.ref (ad 0), .int f, .int g] σ own ad c w [IOB, NSE] (aQ2 S f g vEq) := by
  refine RUN.wf (fun W => eX8_areEqual ⟨R.x0, cc_call R (fun e => ?_) (fun e1 => ⟨R.x0, cc_call R (fun e => ?_) (fun e2 => ⟨R.x0, fo_call R (fun e => absurd e e1) (fun e => ?_) (fun fo A => ⟨R.x0, fo_call R (fun e => absurd e e2) (fun e => ?_) (fun go B => ?_) (by omega)⟩) (by omega)⟩) (by omega)⟩) (by omega)⟩)
  · have hA : aQ2 S f g vEq = (1, 0, S) := if_pos (Or.inl e)
    rw [hA]; exact ⟨rfl, StepC.thr R W⟩
  · have hA : aQ2 S f g vEq = (1, 0, S) := if_pos (Or.inr e)
    rw [hA]; exact ⟨rfl, StepC.thr R W⟩
  · have hA : aQ2 S f g vEq = (2, 0, S) := (if_neg (fun z => z.elim e1 e2)).trans (if_pos (Or.inl e))
    rw [hA]; exact ⟨rfl, StepC.thr R W⟩
  · have hA : aQ2 S f g vEq = (2, 0, S) := (if_neg (fun z => z.elim e1 e2)).trans (if_pos (Or.inr e))
    rw [hA]; exact ⟨rfl, StepC.thr R W⟩
  · obtain ⟨ra, ka, a0, a1, a2, a3, a4, a5, a6, a7, a8, a9, a10, a11, a12, a13, a14, a15, a16⟩ := A
    obtain ⟨rb, kb, b0, b1, b2, b3, b4, b5, b6, b7, b8, b9, b10, b11, b12, b13, b14, b15, b16⟩ := B
    rw [aQ2_0 a0 b0, vEq_of _ _ a4 b4]
    have l1 := cntF_le (sF S (ixF f))
    have l2 := cntF_le (sF S (ixF g))
    refine ⟨a5, b5, ?_⟩
    rw [a9, b9]
    refine ⟨fun z => ?_, fun z => ⟨ra, a6, rb, b6, inside_call a7 b7 ?_ (by omega)⟩⟩
    · rw [if_neg (fun y => z (by rw [y]))]
      exact ⟨rfl, StepC.refl R W⟩
    · rw [if_pos ((nI_eq (by omega) (by omega)).mp z), a8, b8]
      refine ⟨fun y => ⟨?_, StepC.refl R W⟩, fun y => ⟨?_, StepC.refl R W⟩⟩
      · show _ = Sum.inl (some (Value.int (vSub _ _)))
        rw [y]
      · show _ = Sum.inl (some (Value.int (vSub _ _)))
        have : vSub (sF S (ixF f)) (sF S (ixF g)) = 1 := by
          unfold vSub at y ⊢
          rw [(b2i_ne0 _).mp y]; rfl
        rw [this]
theorem setAt_R {f i : Int32} (R : RepC Γ σ own ad S c w) (hd : 9 ≤ d) : CLM Γ d MX8_setAt [.ref (ad 0), .int f, .int i] σ own ad c w [IOB, NSE] (aSetAt S f i) := by
  refine RUN.wf (fun W => eX8_setAt ⟨R.x0, fo_call R (fun e => ?_) (fun e => ?_) (fun fo A => ?_) (by omega)⟩)
  · have hA : aSetAt S f i = (1, 0, S) := if_pos e
    rw [hA]; exact ⟨rfl, StepC.thr R W⟩
  · have hA : aSetAt S f i = (2, 0, S) := (if_neg (by omega)).trans (if_pos e)
    rw [hA]; exact ⟨rfl, StepC.thr R W⟩
  · obtain ⟨ra, ka, a0, a1, a2, a3, a4, a5, a6, a7, a8, a9, a10, a11, a12, a13, a14, a15, a16⟩ := A
    have Al := R.2.1.alg
    refine ⟨a5, ra, a6, R.x0, ad 4, R.2.1.2.2.2.2.1, list_call R a7 (fun g hl => ?_) (by omega)⟩
    have F1 := fr_first R (f := g) rfl
    rw [a8]
    have le := cntF_le (sF S (ixF f))
    have pre : aSetAt S f i = if i < 0 ∨ nI (cntF (sF S (ixF f))) ≤ i then (2, 0, S) else (0, nI (kthF (sF S (ixF f)) (ixF i)), S) := (if_neg (by omega)).trans (if_neg (by omega))
    have bad : (i < 0 ∨ nI (cntF (sF S (ixF f))) ≤ i) → EV Γ MX8_setAt d 36 [none, none, none, none, none] [] (rowI σ (ad 4) g) (fun oc σ' => ansO [IOB, NSE] (aSetAt S f i) oc ∧ StepC Γ σ own ad c w (aSetAt S f i).2.2 σ') := by
      intro h
      rw [pre, if_pos h]
      exact gX8_setAt_36 ⟨by omega, rfl, StepC.scr R W (F1.trans (FR.thr _ _)) (by show hc σ + 1 ≤ _; omega) (by show hv σ + 6 ≤ _; omega)⟩
    refine ⟨fun z => bad (Or.inl z), fun z => ⟨fun y => bad (Or.inr y), fun y => ?_⟩⟩
    obtain ⟨k, hk, rfl⟩ := nI_of z
    have lt : k < cntF (sF S (ixF f)) := by
      rcases Nat.lt_or_ge k (cntF (sF S (ixF f))) with v | v
      · exact v
      · exact absurd ((nI_leI (by omega) hk).mpr v) y
    have lt2 := lt
    rw [← a8] at lt2
    obtain ⟨x, x1, x2, x3, x4, x5⟩ := lst_step hl lt2
    rw [a8] at x2 x4
    refine ⟨fun _ => ⟨R.x0, ad 4, R.2.1.2.2.2.2.1, 4096, Al.2.2.2.2.2.1, k, IXn (by omega) (by omega), ?_⟩, fun v => absurd ((nI_ltI (b := 4096) (by omega) (by omega)).mpr (by omega)) v⟩
    rw [pre, if_neg (fun v => v.elim z y), gi_row, x3]
    have ek : kthF (sF S (ixF f)) (ixF (nI k)) = x := by
      rw [show ixF (nI k) = k from pk_tn (by omega)]
      exact kthF_eq x2 x4
    rw [ek]
    exact ⟨rfl, StepC.scr R W F1 (Nat.le_add_right _ _) (Nat.le_add_right _ _)⟩
theorem ff_call {f : Int32} {K : Nat → AH → Prop} {KX : String → AH → Prop} (R : RepC Γ σ own ad S c w) (h1 : fcd S f = 1 → KX IOB (thr σ)) (h2 : fcd S f = 2 → KX NSE (thr σ)) (h3 : fcd S f = 0 → cntF (sF S (ixF f)) = 0 → KX NSE (thr σ)) (h0 : ∀ fo, FoundF σ own (lo Γ + hc σ) S f fo → cntF (sF S (ixF f)) ≠ 0 → K fo σ) (hd : 10 ≤ d) : CR Γ d MX8_filledFamilyOf [.ref (ad 0), .int f] σ K KX := by
  have le := cntF_le (sF S (ixF f))
  rcases fcd_cases S R.n.2 f with ⟨e, hf⟩ | ⟨k, rfl, ei, hk, ⟨e, er⟩ | ⟨e, er⟩⟩
  · refine CALL.ofX (d2 := 9) (E := IOB) (P := fun σ' => σ' = thr σ) ?_ (by omega) (fun σ1 _ q => by rw [q]; exact h1 e)
    exact eX8_filledFamilyOf ⟨R.x0, fo_call R (fun _ => ⟨rfl, rfl⟩) (fun z => absurd (z.symm.trans e) (by decide)) (fun fo A => by obtain ⟨ra, ka, a0, -⟩ := A; exact absurd (a0.symm.trans e) (by decide)) (by omega)⟩
  · refine CALL.ofX (d2 := 9) (E := NSE) (P := fun σ' => σ' = thr σ) ?_ (by omega) (fun σ1 _ q => by rw [q]; exact h2 e)
    exact eX8_filledFamilyOf ⟨R.x0, fo_call R (fun z => absurd (z.symm.trans e) (by decide)) (fun _ => ⟨rfl, rfl⟩) (fun fo A => by obtain ⟨ra, ka, a0, -⟩ := A; exact absurd (a0.symm.trans e) (by decide)) (by omega)⟩
  · by_cases z : cntF (sF S (ixF (nI k))) = 0
    · refine CALL.ofX (d2 := 9) (E := NSE) (P := fun σ' => σ' = thr σ) ?_ (by omega) (fun σ1 _ q => by rw [q]; exact h3 e z)
      refine eX8_filledFamilyOf ⟨R.x0, fo_call R (fun z => absurd (z.symm.trans e) (by decide)) (fun z => absurd (z.symm.trans e) (by decide)) (fun fo A => ?_) (by omega)⟩
      obtain ⟨ra, ka, a0, a1, a2, a3, a4, a5, a6, a7, a8, a9, -⟩ := A
      refine ⟨a5, fun y => absurd (by rw [a9, z]; rfl) y, fun _ => ⟨by omega, rfl, rfl⟩⟩
    · refine CR.of (d2 := 9) (P := fun r σ' => ∃ fo, r = some fo ∧ σ' = σ ∧ FoundF σ own (lo Γ + hc σ) S (nI k) fo) ?_ (by omega) (fun r σ1 _ q => ?_)
      · refine eX8_filledFamilyOf ⟨R.x0, fo_call R (fun z => absurd (z.symm.trans e) (by decide)) (fun z => absurd (z.symm.trans e) (by decide)) (fun fo A => ?_) (by omega)⟩
        have A' := A
        obtain ⟨ra, ka, a0, a1, a2, a3, a4, a5, a6, a7, a8, a9, -⟩ := A'
        refine ⟨a5, fun _ => ⟨some fo, rfl, fo, rfl, rfl, A⟩, fun y => absurd y (by rw [a9]; exact nI_ne0 (Nat.pos_of_ne_zero z) (by omega))⟩
      · obtain ⟨fo, q1, q2, q3⟩ := q
        exact ⟨fo, q1, by rw [q2]; exact h0 fo q3 z⟩
theorem aQF_1 {f : Int32} {v : (Nat → Bool) → Int32} (h : fcd S f = 1) : aQF S f v = (1, 0, S) := if_pos h
theorem aQF_2 {f : Int32} {v : (Nat → Bool) → Int32} (h : fcd S f = 2) : aQF S f v = (2, 0, S) := (if_neg (by omega)).trans (if_pos h)
theorem aQF_3 {f : Int32} {v : (Nat → Bool) → Int32} (h : fcd S f = 0) (h2 : cntF (sF S (ixF f)) = 0) : aQF S f v = (2, 0, S) := (if_neg (by omega)).trans ((if_neg (by omega)).trans (if_pos h2))
theorem aQF_0 {f : Int32} {v : (Nat → Bool) → Int32} (h : fcd S f = 0) (h2 : cntF (sF S (ixF f)) ≠ 0) : aQF S f v = (0, v (sF S (ixF f)), S) := (if_neg (by omega)).trans ((if_neg (by omega)).trans (if_neg h2))
theorem cost_first {g : Nat → Int32} (R : RepC Γ σ own ad S c w) : CostOK (rowI σ (ad 4) g) (ad 15) (ad 16) (ad 17) (ad 18) (sK S) :=
  R.2.2.2.2.1.fr (P := fun a => a = ad 4) (FR.rowI _ _ rfl) (R.1.ne (by omega) (by omega) (by omega)) (R.1.ne (by omega) (by omega) (by omega)) (R.1.ne (by omega) (by omega) (by omega)) (R.1.ne (by omega) (by omega) (by omega))
theorem leastCost_R {f : Int32} (R : RepC Γ σ own ad S c w) (hd : 11 ≤ d) : CLM Γ d MX8_leastCost [.ref (ad 0), .int f] σ own ad c w [IOB, NSE] (aQF S f (vLeast (sK S))) := by
  refine RUN.wf (fun W => eX8_leastCost ⟨R.x0, ff_call R (fun e => ?_) (fun e => ?_) (fun e z => ?_) (fun fo A z => ?_) (by omega)⟩)
  · rw [aQF_1 e]; exact ⟨rfl, StepC.thr R W⟩
  · rw [aQF_2 e]; exact ⟨rfl, StepC.thr R W⟩
  · rw [aQF_3 e z]; exact ⟨rfl, StepC.thr R W⟩
  · obtain ⟨ra, ka, a0, a1, a2, a3, a4, a5, a6, a7, a8, a9, a10, a11, a12, a13, a14, a15, a16⟩ := A
    have Al := R.2.1.alg
    rw [aQF_0 a0 z]
    refine ⟨a5, ra, a6, R.x0, ad 4, R.2.1.2.2.2.2.1, list_call R a7 (fun g hl => ?_) (by omega)⟩
    have F1 := fr_first R (f := g) rfl
    rw [a8]
    have le := cntF_le (sF S (ixF f))
    have CO := cost_first (g := g) R
    have fin : ∀ v : Int32, v = vLeast (sK S) (sF S (ixF f)) → ansO [IOB, NSE] (0, vLeast (sK S) (sF S (ixF f)), S) (.inl (some (.int v))) ∧ StepC Γ σ own ad c w S (rowI σ (ad 4) g) := fun v hv' => ⟨by rw [hv']; exact rfl, StepC.scr R W F1 (Nat.le_add_right _ _) (Nat.le_add_right _ _)⟩
    have L : ∀ i, i ≤ cntF (sF S (ixF f)) → ∀ v : Int32, (∀ m, m ≤ 4096 → fb_ct (sF S (ixF f)) m = i → v = foldF (sF S (ixF f)) (fun n m => if csum (sK S) 12 m < n then csum (sK S) 12 m else n) 12000 m) → EV Γ MX8_leastCost d 26 [some (.ref (ad 0)), none, none, some (.int (nI (cntF (sF S (ixF f))))), some (.int v), some (.int (nI i))] [] (rowI σ (ad 4) g) (fun oc σ' => ansO [IOB, NSE] (0, vLeast (sK S) (sF S (ixF f)), S) oc ∧ StepC Γ σ own ad c w S σ') := by
      refine upto _ ?_ (fun i hi ih => ?_)
      · intro v hv'
        exact gX8_leastCost_26 ⟨fun _ => fin v (hv' 4096 (Nat.le_refl _) rfl), fun y => absurd (nI_le (Nat.le_refl _) (by omega)) y⟩
      · intro v hv'
        rw [← a8] at hi
        obtain ⟨x, x1, x2, x3, x4, x5⟩ := lst_step hl hi
        rw [a8] at hi x2 x4 x5
        refine gX8_leastCost_26 ⟨fun y => absurd ((nI_leI (by omega) (by omega)).mp y) (by omega), fun _ => ⟨fun y => absurd ((c4096le (by omega)).mp y) (by omega), fun _ => ⟨R.x0, ad 15, R.2.1.2.2.2.2.2.2.2.2.2.2.1, ad 4, R.2.1.2.2.2.2.1, 4096, Al.2.2.2.2.2.1, i, IXn (by omega) (by omega), CO.1, ?_⟩⟩⟩
        rw [gi_row, x3]
        refine CI.of (d2 := 0) (of_R CO x1) (by omega) (fun r σ1 _ q => ?_)
        obtain ⟨rfl, rfl⟩ := q
        rw [nI_1]
        have vx := hv' x (by omega) x4
        refine ⟨by omega, ih _ (fun m hm e => ?_)⟩
        rw [fold_ct (e.trans x5.symm), fold_y x2, vx]
    refine L 0 (Nat.zero_le _) 12000 (fun m hm e => ?_)
    rw [fold_ct (b := 0) e]; rfl
/-- the mean cost: a double -/
theorem meanCost_R {f : Int32} (R : RepC Γ σ own ad S c w) (hd : 11 ≤ d) : RUN Γ d MX8_meanCost [.ref (ad 0), .int f] σ (fun oc σ' => (if (aQF S f (fun _ => 0)).1 = 0 then oc = .inl (some (.double (vMean (sK S) (sF S (ixF f))))) else oc = .inr ([IOB, NSE].getD ((aQF S f (fun _ => 0)).1 - 1) "")) ∧ StepC Γ σ own ad c w S σ') := by
  refine RUN.wf (fun W => eX8_meanCost ⟨R.x0, ff_call R (fun e => ?_) (fun e => ?_) (fun e z => ?_) (fun fo A z => ?_) (by omega)⟩)
  · rw [aQF_1 e]; exact ⟨rfl, StepC.thr R W⟩
  · rw [aQF_2 e]; exact ⟨rfl, StepC.thr R W⟩
  · rw [aQF_3 e z]; exact ⟨rfl, StepC.thr R W⟩
  · obtain ⟨ra, ka, a0, a1, a2, a3, a4, a5, a6, a7, a8, a9, a10, a11, a12, a13, a14, a15, a16⟩ := A
    have Al := R.2.1.alg
    rw [aQF_0 a0 z]
    refine ⟨a5, ra, a6, R.x0, ad 4, R.2.1.2.2.2.2.1, list_call R a7 (fun g hl => ?_) (by omega)⟩
    have F1 := fr_first R (f := g) rfl
    rw [a8]
    have le := cntF_le (sF S (ixF f))
    have CO := cost_first (g := g) R
    have nfo : fo ≠ ad 4 := fun y => by rw [y, (R.1 4 (by omega)).1] at a13; omega
    have g1 : gi (rowI σ (ad 4) g) fo 1 = nI (cntF (sF S (ixF f))) := by rw [gi_rown _ _ nfo]; exact a9
    have L : ∀ i, i ≤ cntF (sF S (ixF f)) → ∀ v : Int32, (∀ m, m ≤ 4096 → fb_ct (sF S (ixF f)) m = i → v = foldF (sF S (ixF f)) (fun n m => n + csum (sK S) 12 m) 0 m) → EV Γ MX8_meanCost d 24 [some (.ref (ad 0)), none, some (.ref fo), some (.int (nI (cntF (sF S (ixF f))))), some (.int v), some (.int (nI i))] [] (rowI σ (ad 4) g) (fun oc σ' => oc = .inl (some (.double (vMean (sK S) (sF S (ixF f))))) ∧ StepC Γ σ own ad c w S σ') := by
      refine upto _ ?_ (fun i hi ih => ?_)
      · intro v hv'
        have ev : v = vSum (sK S) (sF S (ixF f)) := hv' 4096 (Nat.le_refl _) rfl
        refine gX8_meanCost_24 ⟨fun _ => ⟨a5, ?_, ?_, StepC.scr R W F1 (Nat.le_add_right _ _) (Nat.le_add_right _ _)⟩, fun y => absurd (nI_le (Nat.le_refl _) (by omega)) y⟩
        · rw [g1]; exact mean_ok _ _ (nI_ne0 (Nat.pos_of_ne_zero z) (by omega))
        · rw [g1, ev]; rfl
      · intro v hv'
        rw [← a8] at hi
        obtain ⟨x, x1, x2, x3, x4, x5⟩ := lst_step hl hi
        rw [a8] at hi x2 x4 x5
        refine gX8_meanCost_24 ⟨fun y => absurd ((nI_leI (by omega) (by omega)).mp y) (by omega), fun _ => ⟨fun y => absurd ((c4096le (by omega)).mp y) (by omega), fun _ => ⟨R.x0, ad 15, R.2.1.2.2.2.2.2.2.2.2.2.2.1, ad 4, R.2.1.2.2.2.2.1, 4096, Al.2.2.2.2.2.1, i, IXn (by omega) (by omega), CO.1, ?_⟩⟩⟩
        rw [gi_row, x3]
        refine CI.of (d2 := 0) (of_R CO x1) (by omega) (fun r σ1 _ q => ?_)
        obtain ⟨rfl, rfl⟩ := q
        rw [nI_1]
        have vx := hv' x (by omega) x4
        refine ih _ (fun m hm e => ?_)
        rw [fold_ct (e.trans x5.symm), fold_y x2, vx]
    refine L 0 (Nat.zero_le _) 0 (fun m hm e => ?_)
    rw [fold_ct (b := 0) e]; rfl
end QY
