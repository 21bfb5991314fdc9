/-! ROWS of FamilyStore: families by cost; writing. -/
def bx (x : Int32) : Int32 := Int8.toInt32 (Int32.toInt8 x)
/-- what is written, and its length -/
abbrev OutT : Type := (Nat → Int32) × Nat
def put1 (a : OutT) (x : Int32) : OutT := (up a.1 a.2 (bx x), a.2 + 1)
def wU (m : Nat) : Nat → OutT → OutT
  | 0, a => a
  | e + 1, a => if m.testBit e = true then put1 (wU m e a) ((97 : Int32) + nI e) else wU m e a
def wM (m : Nat) (a : OutT) : OutT := wU m 12 (if m = 0 then put1 a 49 else a)
def wH (a : OutT) (m : Nat) : OutT := wM m (if a.2 = 0 then a else put1 a 43)
def wAll (F : Nat → Bool) (o : Nat → Int32) : OutT := if cntF F = 0 then put1 (o, 0) 48 else foldF F wH (o, 0) 4096
def wL (F : Nat → Bool) (m : Nat) : Nat := foldF F (fun n m => n + (if n = 0 then 0 else 1) + max 1 (popN 12 m)) 0 m
def stW (S : StT) (a : OutT) : StT := stO S a.1 a.2
def aWrite (S : StT) (f : Int32) : AnsT := if fcd S f = 1 then (1, 0, S) else if fcd S f = 2 then (2, 0, S) else if 1000 < wL (sF S (ixF f)) 4096 then (3, 0, S) else (0, nI (wAll (sF S (ixF f)) (sO S)).2, stW S (wAll (sF S (ixF f)) (sO S)))
theorem wU_len (m : Nat) (a : OutT) : ∀ e, (wU m e a).2 = a.2 + popN e m
  | 0 => rfl
  | e + 1 => by
    have e1 : popN (e + 1) m = popN e m + (if m.testBit e then 1 else 0) := fb_ct_succ _ e
    rw [e1]
    show (if m.testBit e = true then put1 (wU m e a) ((97 : Int32) + nI e) else wU m e a).2 = _
    cases q : m.testBit e
    · rw [if_neg (by decide), if_neg (by decide), wU_len m a e, Nat.add_zero]
    · rw [if_pos rfl, if_pos rfl]
      show (wU m e a).2 + 1 = _
      rw [wU_len m a e]; omega
theorem popN_0 {m : Nat} (hm : m < 4096) : popN 12 m = 0 ↔ m = 0 := by
  constructor
  · intro h
    refine Nat.eq_of_testBit_eq (fun i => ?_)
    rw [Nat.zero_testBit]
    rcases Nat.lt_or_ge i 12 with q | q
    · exact fb_ct_zero.mp h i q
    · exact tb_big hm q
  · rintro rfl
    exact fb_ct_zero.mpr (fun i _ => by rw [Nat.zero_testBit])
theorem wM_len {m : Nat} (hm : m < 4096) (a : OutT) : (wM m a).2 = a.2 + max 1 (popN 12 m) := by
  unfold wM
  rw [wU_len]
  have := popN_0 hm
  by_cases h : m = 0
  · rw [if_pos h, this.mpr h]; rfl
  · rw [if_neg h]
    have : popN 12 m ≠ 0 := fun z => h (this.mp z)
    omega
theorem wF_len (F : Nat → Bool) (o : Nat → Int32) : ∀ m, m ≤ 4096 → (foldF F wH (o, 0) m).2 = wL F m
  | 0, _ => rfl
  | m + 1, h => by
    have ih := wF_len F o m (by omega)
    unfold wL at *
    cases q : F m
    · rw [fold_n q, fold_n q]; exact ih
    · rw [fold_y q, fold_y q, ← ih]
      show (wM m (if (foldF F wH (o, 0) m).2 = 0 then foldF F wH (o, 0) m else put1 (foldF F wH (o, 0) m) 43)).2 = _
      rw [wM_len (by omega)]
      split
      · omega
      · show (foldF F wH (o, 0) m).2 + 1 + _ = _
        omega
/-- sizes of all sets -/
def wS (F : Nat → Bool) (m : Nat) : Nat := foldF F (fun n m => n + max 1 (popN 12 m)) 0 m
theorem wL_S (F : Nat → Bool) : ∀ m, (fb_ct F m = 0 ∧ wL F m = 0 ∧ wS F m = 0) ∨ (0 < fb_ct F m ∧ fb_ct F m ≤ wS F m ∧ wL F m + 1 = fb_ct F m + wS F m)
  | 0 => Or.inl ⟨rfl, rfl, rfl⟩
  | m + 1 => by
    have ih := wL_S F m
    unfold wL wS at *
    rw [fb_ct_succ]
    cases q : F m
    · rw [fold_n q, fold_n q, if_neg (by decide), Nat.add_zero]; exact ih
    · rw [fold_y q, fold_y q, if_pos rfl]
      right
      rcases ih with ⟨h1, h2, h3⟩ | ⟨h1, h0, h2⟩
      · rw [h1, h2, h3, if_pos rfl]; omega
      · show 0 < _ + 1 ∧ _ + 1 ≤ _ + _ ∧ _ + (if _ = 0 then 0 else 1) + _ + 1 = _ + 1 + (_ + _)
        split
        · omega
        · omega
theorem wL_mono (F : Nat → Bool) : ∀ {m n : Nat}, m ≤ n → wL F m ≤ wL F n := by
  intro m n h
  induction n with
  | zero => rw [show m = 0 by omega]; exact Nat.le_refl _
  | succ n ih =>
    rcases Nat.lt_or_ge n m with c | c
    · rw [show m = n + 1 by omega]; exact Nat.le_refl _
    · refine Nat.le_trans (ih c) ?_
      unfold wL
      cases q : F n
      · rw [fold_n q]; exact Nat.le_refl _
      · rw [fold_y q]
        show _ ≤ _ + _ + _
        omega
theorem popN_le (n m : Nat) : popN n m ≤ n := fb_ct_le _ n
theorem wS_le (F : Nat → Bool) : ∀ m, wS F m ≤ 12 * m
  | 0 => Nat.le_refl _
  | m + 1 => by
    have ih := wS_le F m
    have := popN_le 12 m
    unfold wS at *
    cases q : F m
    · rw [fold_n q]; omega
    · rw [fold_y q]
      show _ + _ ≤ _
      omega
theorem fold_wc (F : Nat → Bool) (k : Nat → Int32) (lo hi : Int32) : ∀ m, foldF F (fun G m => if ¬ csum k 12 m < lo ∧ ¬ hi < csum k 12 m then (fun x => G x || decide (x = m)) else G) (fun _ => false) m = fun x => decide (x < m) && wcF k lo hi F x
  | 0 => by
    funext x
    rw [decide_eq_false (Nat.not_lt_zero x)]; rfl
  | m + 1 => by
    have ih := fold_wc F k lo hi m
    have st : ∀ b, wcF k lo hi F m = b → (fun x => (decide (x < m) && wcF k lo hi F x) || (decide (x = m) && b)) = fun x => decide (x < m + 1) && wcF k lo hi F x := by
      intro b hb
      funext x
      rcases Nat.lt_trichotomy x m with h | h | h
      · rw [decide_eq_true (show x < m + 1 by omega), decide_eq_true h, decide_eq_false (show ¬ x = m by omega), Bool.false_and, Bool.or_false]
      · rw [h, decide_eq_true (show m < m + 1 by omega), decide_eq_false (show ¬ m < m by omega), decide_eq_true rfl, Bool.true_and, Bool.true_and, Bool.false_and, Bool.false_or, hb]
      · rw [decide_eq_false (show ¬ x < m + 1 by omega), decide_eq_false (show ¬ x < m by omega), decide_eq_false (show ¬ x = m by omega), Bool.false_and, Bool.false_and]; rfl
    have same : ∀ G : Nat → Bool, (fun x => G x || (decide (x = m) && false)) = G := fun G => by
      funext x
      rw [Bool.and_false, Bool.or_false]
    have full : ∀ G : Nat → Bool, (fun x => G x || (decide (x = m) && true)) = fun x => G x || decide (x = m) := fun G => by
      funext x
      rw [Bool.and_true]
    cases q : F m
    · rw [fold_n q, ih, ← st false (by unfold wcF; rw [q]; rfl)]
      exact (same _).symm
    · rw [fold_y q, ih]
      by_cases h : ¬ csum k 12 m < lo ∧ ¬ hi < csum k 12 m
      · rw [if_pos h, ← st true (by unfold wcF; rw [q, decide_eq_true h.1, decide_eq_true h.2]; rfl)]
        exact (full _).symm
      · rw [if_neg h, ← st false (by
          unfold wcF
          rw [q, ← Bool.decide_and, decide_eq_false h]; rfl)]
        exact (same _).symm
section WR
variable {Γ : Gm} {d : Nat} {σ : AH} {own ad : Nat → Nat} {S : StT} {c w : Nat}
theorem withCost_R {f lo' hi : Int32} (R : RepC Γ σ own ad S c w) (hd : 14 ≤ d) : CLM Γ d MX8_withCost [.ref (ad 0), .int f, .int lo', .int hi] σ own ad c w [IOB, NSE, ISE] (aCost S f lo' hi) := by
  refine RUN.wf (fun W => eX8_withCost ⟨R.x0, fo_call R (fun e => ?_) (fun e => ?_) (fun fo A => ⟨R.x0, room_call R (fun e => ?_) (fun hn => ?_) (by omega)⟩) (by omega)⟩)
  · have hA : aCost S f lo' hi = (1, 0, S) := if_pos e
    rw [hA]; exact ⟨rfl, StepC.thr R W⟩
  · have hA : aCost S f lo' hi = (2, 0, S) := (if_neg (by omega)).trans (if_pos e)
    rw [hA]; exact ⟨rfl, StepC.thr R W⟩
  · obtain ⟨ra, ka, a0, -⟩ := A
    have hA : aCost S f lo' hi = (3, 0, S) := (if_neg (by omega)).trans ((if_neg (by omega)).trans (if_pos e))
    rw [hA]; exact ⟨rfl, StepC.thr R W⟩
  · obtain ⟨ra, ka, a0, a1, a2, a3, a4, a5, a6, a7, a8, a9, a10, a11, a12, a13, a14, a15, a16⟩ := A
    have hA : aCost S f lo' hi = (0, nI (sN S), stA S (wcF (sK S) lo' hi (sF S (ixF f)))) := (if_neg (by omega)).trans ((if_neg (by omega)).trans (if_neg (by omega)))
    rw [hA]
    have Al := R.2.1.alg
    refine ⟨a5, ra, a6, R.x0, ad 4, R.2.1.2.2.2.2.1, list_call R a7 (fun g hl => ?_) (by omega)⟩
    have F1 := fr_first R (f := g) rfl
    have W1 : WF Γ (rowI σ (ad 4) g) := W.upd Al.2.2.2.2.2.1 (by decide) rfl rfl (fun _ _ => rfl)
    have R1 : RepC Γ (rowI σ (ad 4) g) own ad S c w := R.keep W F1 (fun r h => Or.inl h) (fun _ _ _ => rfl)
    intro q τ eq et
    rw [a8]
    have le := cntF_le (sF S (ixF f))
    have Hq := WQ.new (σ := σ) R1 W1 F1 rfl rfl
    rw [← eq, ← et] at Hq
    have Wt : WF Γ τ := by rw [et, eq]; exact W1.mk
    have r4 := (R.1 4 (by omega)).2
    have gq : gi τ (ad 4) = g := by
      rw [et, eq]
      exact (gi_mk_n _ _ _ (by rw [hc_rowI]; omega)).trans (up_same _ _ _)
    have L : ∀ i, i ≤ cntF (sF S (ixF f)) → ∀ τ (G : Nat → Bool), WF Γ τ → WQ Γ σ own ad S c w q τ G → gi τ (ad 4) = g → (∀ m, m ≤ 4096 → fb_ct (sF S (ixF f)) m = i → G = foldF (sF S (ixF f)) (fun G m => if ¬ csum (sK S) 12 m < lo' ∧ ¬ hi < csum (sK S) 12 m then (fun x => G x || decide (x = m)) else G) (fun _ => false) m) → EV Γ MX8_withCost d 34 [some (.ref (ad 0)), none, some (.int lo'), some (.int hi), none, some (.int (nI (cntF (sF S (ixF f))))), some (.ref q), some (.int (nI i)), none] [] τ (fun oc σ' => ansO [IOB, NSE, ISE] (0, nI (sN S), stA S (wcF (sK S) lo' hi (sF S (ixF f)))) oc ∧ StepC Γ σ own ad c w (stA S (wcF (sK S) lo' hi (sF S (ixF f)))) σ') := by
      refine upto _ ?_ (fun i hi' ih => ?_)
      · intro τ G W' H h4 hG
        have eG := hG 4096 (Nat.le_refl _) rfl
        rw [fold_wc] at eG
        have e2 : (fun x => decide (x < 4096) && wcF (sK S) lo' hi (sF S (ixF f)) x) = wcF (sK S) lo' hi (sF S (ixF f)) := by
          funext x
          rcases Nat.lt_or_ge x 4096 with h | h
          · rw [decide_eq_true h, Bool.true_and]
          · rw [decide_eq_false (by omega), Bool.false_and]
            cases z : sF S (ixF f) x
            · unfold wcF; rw [z]; rfl
            · exact absurd (a4 x z) (by omega)
        rw [eG, e2] at H
        exact gX8_withCost_34 ⟨fun _ => gX8_withCost_95 ⟨H.1.x0, H.add hn (by omega) (fun σ' st => ⟨rfl, st⟩)⟩, fun y => absurd (nI_le (Nat.le_refl _) (by omega)) y⟩
      · intro τ G W' H h4 hG
        have lt2 := hi'
        rw [← a8] at lt2
        obtain ⟨x, x1, x2, x3, x4, x5⟩ := lst_step hl lt2
        rw [a8] at x2 x4 x5
        have C1' := H.1.2.1
        have CO := H.1.2.2.2.2.1
        have vx := hG x (by omega) x4
        refine gX8_withCost_34 ⟨fun y => absurd ((nI_leI (by omega) (by omega)).mp y) (by omega), fun _ => ⟨fun y => absurd ((c4096le (by omega)).mp y) (by omega), fun _ => ⟨H.1.x0, ad 15, C1'.2.2.2.2.2.2.2.2.2.2.1, ad 4, C1'.2.2.2.2.1, 4096, C1'.alg.2.2.2.2.2.1, i, IXn (by omega) (by omega), CO.1, ?_⟩⟩⟩
        rw [h4, x3]
        refine CI.of (d2 := 0) (of_R CO x1) (by omega) (fun r σ1 _ t => ?_)
        obtain ⟨t1, rfl⟩ := t
        subst t1
        rw [nI_1]
        have skip : ¬ (¬ csum (sK S) 12 x < lo' ∧ ¬ hi < csum (sK S) 12 x) → EV Γ MX8_withCost d 34 [some (.ref (ad 0)), none, some (.int lo'), some (.int hi), none, some (.int (nI (cntF (sF S (ixF f))))), some (.ref q), some (.int (nI (i + 1))), none] [] σ1 (fun oc σ' => ansO [IOB, NSE, ISE] (0, nI (sN S), stA S (wcF (sK S) lo' hi (sF S (ixF f)))) oc ∧ StepC Γ σ own ad c w (stA S (wcF (sK S) lo' hi (sF S (ixF f)))) σ') := fun y => ih σ1 G W' H h4 (fun m hm e => by rw [fold_ct (e.trans x5.symm), fold_y x2, if_neg y]; exact vx)
        refine ⟨fun y => skip (fun z => z.1 y), fun y1 => ⟨fun y => skip (fun z => z.2 y), fun y2 => ⟨H.1.x0, ad 4, C1'.2.2.2.2.1, 4096, C1'.alg.2.2.2.2.2.1, i, IXn (by omega) (by omega), ?_⟩⟩⟩
        rw [h4, x3]
        refine CV.of (d2 := 1) (put_R H.2.2.1 (by omega) x1) (by omega) (fun σ2 W2 z => ?_)
        rw [z] at W2 ⊢
        refine ih _ (fun k => G k || decide (k = x)) W2 (H.row W' _ ?_) h4 (fun m hm e => ?_)
        · rw [fam_put _ x1, H.2.2.2.1]
        · rw [fold_ct (e.trans x5.symm), fold_y x2, if_pos ⟨y1, y2⟩, ← vx]
    refine L 0 (Nat.zero_le _) τ _ Wt Hq gq (fun m hm e => ?_)
    rw [fold_ct (b := 0) e]; rfl
/-- fields and arrays of ints -/
def IN (ad : Nat → Nat) (a : Nat) : Prop := a = ad 0 ∨ a = ad 1 ∨ a = ad 2 ∨ a = ad 19
theorem out_R {x : Int32} {a : OutT} (R : RepC Γ σ own ad (stW S a) c w) (hl : a.2 < 1000) : RV Γ d MX8_appendOutput [.ref (ad 0), .int x] σ (fun σ' => RepC Γ σ' own ad (stW S (put1 a x)) c w ∧ FR (IN ad) σ σ' ∧ hc σ' = hc σ ∧ hv σ' = hv σ) := by
  refine RUN.wf (fun W => ?_)
  have R' := R
  obtain ⟨O, x1, ⟨y1, y2, y3, y4, y5, y6, y7, y8, y9⟩, x3, x4, x5, x6, x7, x8, ⟨z1, z2, z3, z4, z5, z6, z7, z8⟩⟩ := R'
  have y3 : gi σ (ad 0) 4 = nI a.2 := y3
  refine eX8_appendOutput ⟨R.x0, fun z => ?_, fun _ => ⟨ad 2, x1.2.2.1, 1000, x1.2.2.2.2.2.2.2.2.2.2.2.2.2.1, a.2, by rw [y3]; exact IXn (by omega) (by omega), fun σ9 e9 σ14 e14 => ?_⟩⟩
  · rw [y3] at z
    exact absurd ((nI_leI (a := 1000) (by omega) (by omega)).mp z) (by omega)
  have n02 : ad 0 ≠ ad 2 := O.ne (by omega) (by omega) (by omega)
  have n10 : ad 1 ≠ ad 0 := O.ne (by omega) (by omega) (by omega)
  have n12 : ad 1 ≠ ad 2 := O.ne (by omega) (by omega) (by omega)
  have n90 : ad 19 ≠ ad 0 := O.ne (by omega) (by omega) (by omega)
  have n92 : ad 19 ≠ ad 2 := O.ne (by omega) (by omega) (by omega)
  rw [nar_byte] at e9
  have g9 : gi σ9 (ad 0) = gi σ (ad 0) := by rw [e9]; exact up_ne _ _ n02
  have g92 : gi σ9 (ad 2) = up (gi σ (ad 2)) a.2 (bx x) := by rw [e9]; exact up_same _ _ _
  rw [g9, y3, nI_1] at e14
  have F : FR (fun b => b = ad 0 ∨ b = ad 1 ∨ b = ad 2 ∨ b = ad 19) σ σ14 := by
    rw [e14, e9]; exact (FR.setI σ _ _ (Or.inr (Or.inr (Or.inl rfl)))).trans (FR.setI _ _ _ (Or.inl rfl))
  have g0 : gi σ14 (ad 0) = up (gi σ (ad 0)) 4 (nI (a.2 + 1)) := by rw [e14]; exact (up_same _ _ _).trans (by rw [g9])
  have g1 : gi σ14 (ad 1) = gi σ (ad 1) := by rw [e14]; exact (up_ne _ _ n10).trans (by rw [e9]; exact up_ne _ _ n12)
  have g2 : gi σ14 (ad 2) = up (gi σ (ad 2)) a.2 (bx x) := by rw [e14]; exact (up_ne _ _ n02.symm).trans g92
  have g3 : gi σ14 (ad 19) = gi σ (ad 19) := by rw [e14]; exact (up_ne _ _ n90).trans (by rw [e9]; exact up_ne _ _ n92)
  refine ⟨rfl, R.ints W F (by rw [e14, e9]; rfl) (by rw [e14, e9]; rfl) ?_ ?_ rfl rfl rfl rfl, F, by rw [e14, e9]; rfl, by rw [e14, e9]; rfl⟩
  · unfold C2
    rw [g0, g1, g2, g3]
    refine ⟨(up_ne _ _ (by decide)).trans y1, (up_ne _ _ (by decide)).trans y2, up_same _ _ _, (up_ne _ _ (by decide)).trans y4, (up_ne _ _ (by decide)).trans y5, (up_ne _ _ (by decide)).trans y6, y7, fun i hi => ?_, y9⟩
    have hi : i < a.2 + 1 := hi
    show up (gi σ (ad 2)) a.2 (bx x) i = up a.1 a.2 (bx x) i
    by_cases e : i = a.2
    · rw [e, up_same, up_same]
    · rw [up_ne _ _ e, up_ne _ _ e]; exact y8 i (by show i < a.2; omega)
  · exact ⟨z1, by show a.2 + 1 ≤ 1000; omega, z3, z4, z5, z6, z7, z8⟩
theorem writeSet_R {m : Nat} {a : OutT} (R : RepC Γ σ own ad (stW S a) c w) (hm : m < 4096) (hl : a.2 + max 1 (popN 12 m) ≤ 1000) (hd : 2 ≤ d) : RV Γ d MX8_writeSet [.ref (ad 0), .int (nI m)] σ (fun σ' => RepC Γ σ' own ad (stW S (wM m a)) c w ∧ FR (IN ad) σ σ' ∧ hc σ' = hc σ ∧ hv σ' = hv σ) := by
  have p0 := popN_0 hm
  have main : ∀ a1 : OutT, a1.2 + popN 12 m ≤ 1000 → ∀ e, e ≤ 12 → ∀ τ, RepC Γ τ own ad (stW S (wU m e a1)) c w → FR (IN ad) σ τ → hc τ = hc σ → hv τ = hv σ → EV Γ MX8_writeSet d 12 [some (.ref (ad 0)), some (.int (nI m)), some (.int (nI e))] [] τ (fun oc σ' => oc = .inl none ∧ RepC Γ σ' own ad (stW S (wU m 12 a1)) c w ∧ FR (IN ad) σ σ' ∧ hc σ' = hc σ ∧ hv σ' = hv σ) := by
    intro a1 h1
    refine upto _ ?_ (fun e he ih => ?_)
    · intro τ Rt Ft c1 v1
      exact gX8_writeSet_12 ⟨fun _ => ⟨rfl, Rt, Ft, c1, v1⟩, fun y => absurd (by decide) y⟩
    · intro τ Rt Ft c1 v1
      refine gX8_writeSet_12 ⟨fun y => absurd ((nI_leI (a := 12) (by omega) (by omega)).mp y) (by omega), fun _ => ⟨fun y => ?_, fun y => ⟨Rt.x0, ?_⟩⟩⟩
      · rw [nI_1]
        refine ih τ ?_ Ft c1 v1
        have : wU m (e + 1) a1 = wU m e a1 := if_neg (by rw [(bit0 he hm).mp y]; decide)
        rw [this]; exact Rt
      · have tb : m.testBit e = true := by
          cases q : m.testBit e
          · exact absurd ((bit0 he hm).mpr q) y
          · rfl
        have : wU m (e + 1) a1 = put1 (wU m e a1) ((97 : Int32) + nI e) := if_pos tb
        have l := wU_len m a1 e
        have l2 : popN (e + 1) m = popN e m + 1 := by
          have := fb_ct_succ (fun i => m.testBit i) e
          rw [if_pos tb] at this; exact this
        have l3 : popN (e + 1) m ≤ popN 12 m := fb_ct_mono _ (by omega)
        refine CV.of (d2 := 1) (out_R Rt (by omega)) (by omega) (fun σ3 W3 h => ?_)
        obtain ⟨R3, F3, c3, v3⟩ := h
        rw [nI_1]
        exact ih σ3 (by rw [this]; exact R3) (Ft.trans F3) (by omega) (by omega)
  refine eX8_writeSet ⟨fun y => ?_, fun y => ⟨R.x0, ?_⟩⟩
  · have nz : m ≠ 0 := fun z => y (by rw [z]; rfl)
    have e : wM m a = wU m 12 a := by unfold wM; rw [if_neg nz]
    rw [e]
    exact main a (by omega) 0 (by omega) σ R (FR.refl _ _) rfl rfl
  · have nz : m = 0 := (nI_eq (a := m) (b := 0) (by omega) (by omega)).mp y
    have e : wM m a = wU m 12 (put1 a 49) := by unfold wM; rw [if_pos nz]
    rw [e]
    have := p0.mpr nz
    refine CV.of (d2 := 1) (out_R R (by omega)) (by omega) (fun σ3 W3 h => ?_)
    obtain ⟨R3, F3, c3, v3⟩ := h
    exact main (put1 a 49) (by show a.2 + 1 + _ ≤ 1000; omega) 0 (by omega) σ3 R3 F3 c3 v3
end WR
