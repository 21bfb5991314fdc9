/-! ROWS of the model: the other questions. -/
theorem rix {f : Int32} {k : Nat} (h : f = nI (ixF f)) (hf : ixF f < 200) (hk : k < 64) : IX (((64 : Int32) * f) + nI k) 12800 (64 * ixF f + k) := by
  have e : (64 : Int32) * f = nI 64 * nI (ixF f) := by rw [← h]; rfl
  rw [e, pk_mul, nI_add]
  exact IXn (by omega) (by omega)
section MQ6
variable {Γ : Gm} {d : Nat} {σ : AH} {own mad : Nat → Nat} {S : StT} {c : Nat}
theorem mcountWith_C {f e : Int32} (R : RepM Γ σ own mad S c) (hd : 4 ≤ d) : CMN Γ d MX9_countWith [.ref (mad 0), .int f, .int e] σ own mad c (aQE S f e (vWith (ixF e))) := by
  refine RUN.wf (fun W => eX9_countWith ⟨R.2.1.1, mlook_call R ?_ (by omega)⟩)
  have n2 := R.n.2
  have bad : ∀ (k : Nat) σ5, σ5 = setI σ (mad 0) 0 (nI k) → k ≠ 0 → k ≤ 2 → aQE S f e (vWith (ixF e)) = (k, 0, S) → EV Γ MX9_countWith d 34 [some (.ref (mad 0)), some (.int f), some (.int e), some (.int 0), some (.int 0)] [] σ5 (fun oc σ' => ansM (aQE S f e (vWith (ixF e))) (mad 0) oc σ' ∧ StepM Γ σ own mad c (aQE S f e (vWith (ixF e))).2.2 σ') := by
    intro k σ5 e5 k0 k2 hA
    obtain ⟨R5, F5, g5, st, W5⟩ := mq_code R W e5
    rw [hA]
    refine gX9_countWith_34 ⟨fun y => absurd y (by decide), fun _ => ⟨R5.2.1.1, fun _ => ⟨⟨rfl, g5⟩, st⟩, fun y => ?_⟩⟩
    rw [g5] at y
    exact absurd y (nI_ne0 (by omega) (by omega))
  refine ⟨fun z => ⟨R.2.1.1, fun σ6 e6 => ?_⟩, fun z => ?_⟩
  · have e1 : fcd S f = 1 := (nI_eq (b := 1) (by have := fcd_le S f; omega) (by omega)).mp z
    exact bad 1 σ6 e6 (by omega) (by omega) (if_pos (Or.inl e1))
  · have e1 : fcd S f ≠ 1 := fun t => z (by rw [t]; rfl)
    refine CI.of (d2 := 0) isElement_R (by omega) (fun r σ9 _ q => ?_)
    obtain ⟨q1, q2⟩ := q
    rw [q1]
    rcases q2 with ⟨q2, hx⟩ | ⟨q2, hx⟩
    · subst q2
      refine ⟨fun _ => ⟨R.2.1.1, mlook_call R ⟨R.2.1.1, fun σ5 e5 => ?_⟩ (by omega)⟩, fun t => absurd t (by decide)⟩
      obtain ⟨h1, h2⟩ := isE_ix hx
      by_cases e2 : fcd S f = 2
      · rw [e2] at e5
        exact bad 2 σ5 e5 (by omega) (by omega) ((if_neg (fun y => y.elim e1 (fun y => bd_false.mp y hx))).trans (if_pos e2))
      · have e0 : fcd S f = 0 := by have := fcd_le S f; omega
        obtain ⟨R5, F5, g5, st, W5⟩ := mq_code R W e5
        rw [e0] at g5
        have hA : aQE S f e (vWith (ixF e)) = (0, vWith (ixF e) (sF S (ixF f)), S) := (if_neg (fun y => y.elim e1 (fun y => bd_false.mp y hx))).trans (if_neg e2)
        rw [hA]
        have L : ∀ m, m ≤ 4096 → EV Γ MX9_countWith d 34 [some (.ref (mad 0)), some (.int f), some (.int e), some (.int (foldF (sF S (ixF f)) (fun n m => n + b2i (m.testBit (ixF e))) 0 m)), some (.int (nI m))] [] σ5 (fun oc σ' => ansM (0, vWith (ixF e) (sF S (ixF f)), S) (mad 0) oc σ' ∧ StepM Γ σ own mad c S σ') := by
          refine upto 4096 ?_ (fun m hm ih => ?_)
          · exact gX9_countWith_34 ⟨fun _ => ⟨⟨rfl, g5⟩, st⟩, fun y => absurd ((c4096le (by omega)).mpr (by omega)) y⟩
          · refine gX9_countWith_34 ⟨fun y => absurd ((c4096le (by omega)).mp y) (by omega), fun _ => ⟨R5.2.1.1, fun y => absurd g5 y, fun _ => ⟨mad 4, R5.2.1.2.2.2.2.1, mhas_call R5 e0 hm ?_ (by omega)⟩⟩⟩
            rw [nI_1, Int32.add_zero]
            have b1 := bit1 h1 hm
            rw [← h2] at b1
            cases q : sF S (ixF f) m
            · refine ⟨fun _ => ?_, fun y => absurd rfl y⟩
              rw [fold_n q] at ih; exact ih
            · rw [fold_y q] at ih
              refine ⟨fun y => absurd y (by decide), fun _ => ⟨fun y => ?_, fun y => ?_⟩⟩
              · have t : m.testBit (ixF e) = false := by
                  cases t : m.testBit (ixF e)
                  · rfl
                  · exact absurd (b1.mpr t) y
                rw [t, show b2i false = 0 from rfl, Int32.add_zero] at ih; exact ih
              · rw [b1.mp y, show b2i true = 1 from rfl] at ih; exact ih
        exact L 0 (Nat.zero_le _)
    · subst q2
      exact ⟨fun t => absurd rfl t, fun _ => ⟨R.2.1.1, fun σ5 e5 => bad 1 σ5 e5 (by omega) (by omega) (if_pos (Or.inr (bd_false.mpr hx)))⟩⟩
theorem mareEqual_C {f g : Int32} (R : RepM Γ σ own mad S c) (hd : 4 ≤ d) : CMN Γ d MX9_areEqual [.ref (mad 0), .int f, .int g] σ own mad c (aQ2 S f g vEq) := by
  refine RUN.wf (fun W => eX9_areEqual ⟨R.2.1.1, mlook2_call R ⟨R.2.1.1, fun σ5 e5 => ?_⟩ (by omega)⟩)
  obtain ⟨R5, F5, g5, st, W5⟩ := mq_code R W e5
  rw [g5]
  have n2 := R.n.2
  have bad : ∀ k, fcd2 S f g = k → k ≠ 0 → k ≤ 2 → EV Γ MX9_areEqual d 26 [some (.ref (mad 0)), some (.int f), some (.int g), some (.int 0), some (.int 0)] [] σ5 (fun oc σ' => ansM (aQ2 S f g vEq) (mad 0) oc σ' ∧ StepM Γ σ own mad c (aQ2 S f g vEq).2.2 σ') := by
    intro k e k0 k2
    rw [aQ2_c e k0]
    rw [e] at g5
    exact gX9_areEqual_26 ⟨fun y => absurd y (by decide), fun _ => ⟨fun _ => ⟨rfl, ⟨rfl, g5⟩, st⟩, fun y => absurd rfl y⟩⟩
  rcases fcd2_le S f g with e | e | e
  · obtain ⟨ef, eg⟩ := fcd2_0 e
    obtain ⟨f1, f2, f3⟩ := fcd_0 n2 ef
    obtain ⟨g1, g2, g3⟩ := fcd_0 n2 eg
    rw [e] at g5 ⊢
    refine ⟨fun y => absurd rfl y, fun _ => ?_⟩
    rw [aQ2_0 ef eg]
    have fA : fam (sr (gj σ5 (mad 4)) (ixF f)) = sF S (ixF f) := R5.2.2.2.2.1.2.2.2.2.2 _ f3
    have fB : fam (sr (gj σ5 (mad 4)) (ixF g)) = sF S (ixF g) := R5.2.2.2.2.1.2.2.2.2.2 _ g3
    have L : ∀ k, k ≤ 64 → (∀ w, w < k → sr (gj σ5 (mad 4)) (ixF f) w = sr (gj σ5 (mad 4)) (ixF g) w) → EV Γ MX9_areEqual d 26 [some (.ref (mad 0)), some (.int f), some (.int g), some (.int 1), some (.int (nI k))] [] σ5 (fun oc σ' => ansM (0, vEq (sF S (ixF f)) (sF S (ixF g)), S) (mad 0) oc σ' ∧ StepM Γ σ own mad c S σ') := by
      refine upto 64 (fun h => ?_) (fun k hk ih h => ?_)
      · have ev : vEq (sF S (ixF f)) (sF S (ixF g)) = 1 := by
          unfold vEq
          rw [bd_true.mpr]
          · rfl
          · rw [← fA, ← fB]
            exact fam_ext (fam_sup _) (fun m hm => by rw [fam_lt _ hm]; exact bs_congr h hm)
        rw [ev]
        exact gX9_areEqual_26 ⟨fun _ => ⟨rfl, ⟨rfl, g5⟩, st⟩, fun y => absurd ((c64le (by omega)).mpr (by omega)) y⟩
      · refine gX9_areEqual_26 ⟨fun y => absurd ((c64le (by omega)).mp y) (by omega), fun _ => ⟨fun y => absurd y (by decide), fun _ => ⟨R5.2.1.1, mad 4, R5.2.1.2.2.2.2.1, 12800, R5.2.2.1.2.2.2.1, _, rix f1 (by omega) hk, _, rix g1 (by omega) hk, fun y => ?_, fun y => ?_⟩⟩⟩
        · have ne : sr (gj σ5 (mad 4)) (ixF f) k ≠ sr (gj σ5 (mad 4)) (ixF g) k := fun t => y ((cmp0 _ _).mpr t)
          have ev : vEq (sF S (ixF f)) (sF S (ixF g)) = 0 := by
            unfold vEq
            rw [bd_false.mpr]
            · rfl
            · rw [← fA, ← fB]
              exact fun t => ne (bs_ext (fun m hm => by rw [← fam_lt _ hm, t, fam_lt _ hm]) k hk)
          rw [ev]
          exact gX9_areEqual_26 ⟨fun _ => ⟨rfl, ⟨rfl, g5⟩, st⟩, fun _ => ⟨fun _ => ⟨rfl, ⟨rfl, g5⟩, st⟩, fun y => absurd rfl y⟩⟩
        · rw [nI_1]
          refine ih (fun w hw => ?_)
          rcases Nat.lt_or_ge w k with v | v
          · exact h w v
          · rw [show w = k by omega]; exact (cmp0 _ _).mp y
    exact L 0 (Nat.zero_le _) (fun w hw => absurd hw (by omega))
  · have b := bad 1 e (by omega) (by omega)
    rw [e]
    exact ⟨fun _ => b, fun z => absurd z (by decide)⟩
  · have b := bad 2 e (by omega) (by omega)
    rw [e]
    exact ⟨fun _ => b, fun z => absurd z (by decide)⟩
theorem misPartOf_C {f g : Int32} (R : RepM Γ σ own mad S c) (hd : 4 ≤ d) : CMN Γ d MX9_isPartOf [.ref (mad 0), .int f, .int g] σ own mad c (aQ2 S f g vSub) := by
  refine RUN.wf (fun W => eX9_isPartOf ⟨R.2.1.1, mlook2_call R ⟨R.2.1.1, fun σ5 e5 => ?_⟩ (by omega)⟩)
  obtain ⟨R5, F5, g5, st, W5⟩ := mq_code R W e5
  rw [g5]
  have n2 := R.n.2
  have bad : ∀ k, fcd2 S f g = k → k ≠ 0 → k ≤ 2 → EV Γ MX9_isPartOf d 26 [some (.ref (mad 0)), some (.int f), some (.int g), some (.int 0), some (.int 0)] [] σ5 (fun oc σ' => ansM (aQ2 S f g vSub) (mad 0) oc σ' ∧ StepM Γ σ own mad c (aQ2 S f g vSub).2.2 σ') := by
    intro k e k0 k2
    rw [aQ2_c e k0]
    rw [e] at g5
    exact gX9_isPartOf_26 ⟨fun y => absurd y (by decide), fun _ => ⟨fun _ => ⟨rfl, ⟨rfl, g5⟩, st⟩, fun y => absurd rfl y⟩⟩
  rcases fcd2_le S f g with e | e | e
  · obtain ⟨ef, eg⟩ := fcd2_0 e
    obtain ⟨f1, f2, f3⟩ := fcd_0 n2 ef
    obtain ⟨g1, g2, g3⟩ := fcd_0 n2 eg
    rw [e] at g5 ⊢
    refine ⟨fun y => absurd rfl y, fun _ => ?_⟩
    rw [aQ2_0 ef eg]
    have fA : fam (sr (gj σ5 (mad 4)) (ixF f)) = sF S (ixF f) := R5.2.2.2.2.1.2.2.2.2.2 _ f3
    have fB : fam (sr (gj σ5 (mad 4)) (ixF g)) = sF S (ixF g) := R5.2.2.2.2.1.2.2.2.2.2 _ g3
    have L : ∀ k, k ≤ 64 → (∀ x, x < 64 * k → bs (sr (gj σ5 (mad 4)) (ixF f)) x = true → bs (sr (gj σ5 (mad 4)) (ixF g)) x = true) → EV Γ MX9_isPartOf d 26 [some (.ref (mad 0)), some (.int f), some (.int g), some (.int 1), some (.int (nI k))] [] σ5 (fun oc σ' => ansM (0, vSub (sF S (ixF f)) (sF S (ixF g)), S) (mad 0) oc σ' ∧ StepM Γ σ own mad c S σ') := by
      refine upto 64 (fun h => ?_) (fun k hk ih h => ?_)
      · have ev : vSub (sF S (ixF f)) (sF S (ixF g)) = 1 := by
          unfold vSub
          rw [bd_true.mpr]
          · rfl
          · rw [← fA, ← fB]
            intro x hx
            have hl := fam_sup _ x hx
            rw [fam_lt _ hl] at hx ⊢
            exact h x hl hx
        rw [ev]
        exact gX9_isPartOf_26 ⟨fun _ => ⟨rfl, ⟨rfl, g5⟩, st⟩, fun y => absurd ((c64le (by omega)).mpr (by omega)) y⟩
      · refine gX9_isPartOf_26 ⟨fun y => absurd ((c64le (by omega)).mp y) (by omega), fun _ => ⟨fun y => absurd y (by decide), fun _ => ⟨R5.2.1.1, mad 4, R5.2.1.2.2.2.2.1, 12800, R5.2.2.1.2.2.2.1, _, rix f1 (by omega) hk, _, rix g1 (by omega) hk, ?_⟩⟩⟩
        rw [cmp0, w_zero_iff]
        refine ⟨fun y => ?_, fun y => ?_⟩
        · have ev : vSub (sF S (ixF f)) (sF S (ixF g)) = 0 := by
            unfold vSub
            rw [bd_false.mpr]
            · rfl
            · rw [← fA, ← fB]
              intro t
              refine y ((cmp0 _ _).mpr ((w_zero_iff _).mpr (fun i hi => ?_)))
              have tt := t (64 * k + i)
              rw [fam_lt _ (by omega), fam_lt _ (by omega), bs_word _ _ _ hi, bs_word _ _ _ hi] at tt
              rw [w_and, w_not _ hi]
              cases h1 : wb (sr (gj σ5 (mad 4)) (ixF f) k) i
              · have h1 : wb (gj σ5 (mad 4) (64 * ixF f + k)) i = false := h1
                rw [h1]; rfl
              · have h2 := tt h1
                have h2 : wb (gj σ5 (mad 4) (64 * ixF g + k)) i = true := h2
                rw [h2, Bool.not_true, Bool.and_false]
          rw [ev]
          exact gX9_isPartOf_26 ⟨fun _ => ⟨rfl, ⟨rfl, g5⟩, st⟩, fun _ => ⟨fun _ => ⟨rfl, ⟨rfl, g5⟩, st⟩, fun y => absurd rfl y⟩⟩
        · rw [nI_1]
          refine ih (fun x hx => ?_)
          rcases Nat.lt_or_ge x (64 * k) with v | v
          · exact h x v
          · have e : x = 64 * k + (x - 64 * k) := by omega
            rw [e, bs_word _ _ _ (by omega), bs_word _ _ _ (by omega)]
            have := y (x - 64 * k) (by omega)
            rw [w_and, w_not _ (by omega)] at this
            intro t
            have t : wb (gj σ5 (mad 4) (64 * ixF f + k)) (x - 64 * k) = true := t
            rw [t] at this
            show wb (gj σ5 (mad 4) (64 * ixF g + k)) (x - 64 * k) = true
            simpa using this
    exact L 0 (Nat.zero_le _) (fun w hw => absurd hw (by omega))
  · have b := bad 1 e (by omega) (by omega)
    rw [e]
    exact ⟨fun _ => b, fun z => absurd z (by decide)⟩
  · have b := bad 2 e (by omega) (by omega)
    rw [e]
    exact ⟨fun _ => b, fun z => absurd z (by decide)⟩
theorem ct_lt {F : Nat → Bool} {m : Nat} (hm : m < 4096) (h : F m = true) : fb_ct F m < cntF F := by
  have := fb_ct_mono F (show m + 1 ≤ 4096 from hm)
  rw [fb_ct_succ, if_pos h] at this
  exact this
theorem msetAt_C {f i : Int32} (R : RepM Γ σ own mad S c) (hd : 4 ≤ d) : CMN Γ d MX9_setAt [.ref (mad 0), .int f, .int i] σ own mad c (aSetAt S f i) := by
  refine RUN.wf (fun W => eX9_setAt ⟨R.2.1.1, mlook_call R ⟨R.2.1.1, fun σ5 e5 => ?_⟩ (by omega)⟩)
  obtain ⟨R5, F5, g5, st, W5⟩ := mq_code R W e5
  have c5 : hc σ5 = hc σ := by rw [e5]; rfl
  have v5 : hv σ5 = hv σ := by rw [e5]; rfl
  rw [g5]
  have n2 := R.n.2
  rcases fcd_le S f with e | e | e
  · rw [e] at g5 ⊢
    refine ⟨fun _ => ?_, fun z => absurd rfl z⟩
    have le := cntF_le (sF S (ixF f))
    have pre : aSetAt S f i = if i < 0 ∨ nI (cntF (sF S (ixF f))) ≤ i then (2, 0, S) else (0, nI (kthF (sF S (ixF f)) (ixF i)), S) := (if_neg (by omega)).trans (if_neg (by omega))
    have L : ∀ m, m ≤ 4096 → (∀ j, j < fb_ct (sF S (ixF f)) m → i ≠ nI j) → EV Γ MX9_setAt d 23 [some (.ref (mad 0)), some (.int f), some (.int i), some (.int (nI (fb_ct (sF S (ixF f)) m))), some (.int (nI m))] [] σ5 (fun oc σ' => ansM (aSetAt S f i) (mad 0) oc σ' ∧ StepM Γ σ own mad c (aSetAt S f i).2.2 σ') := by
      refine upto 4096 (fun h => ?_) (fun m hm ih h => ?_)
      · refine gX9_setAt_23 ⟨fun _ => ⟨R5.2.1.1, mfail_any (k := 2) R5 F5 c5 v5 (pre.trans (if_pos ?_)) (by omega)⟩, fun y => absurd ((c4096le (by omega)).mpr (by omega)) y⟩
        rcases i_cases i with z | ⟨k, hk, rfl⟩
        · exact Or.inl z
        · refine Or.inr ((nI_leI (by omega) hk).mpr ?_)
          rcases Nat.lt_or_ge k (cntF (sF S (ixF f))) with v | v
          · exact absurd rfl (h k v)
          · exact v
      · have lm := fb_ct_le (sF S (ixF f)) m
        refine gX9_setAt_23 ⟨fun y => absurd ((c4096le (by omega)).mp y) (by omega), fun _ => ⟨R5.2.1.1, mad 4, R5.2.1.2.2.2.2.1, mhas_call R5 e hm ?_ (by omega)⟩⟩
        rw [nI_1, nI_1]
        cases q : sF S (ixF f) m
        · rw [fb_ct_succ, q, if_neg (by decide), Nat.add_zero] at ih
          exact ⟨fun y => absurd rfl y, fun _ => ih h⟩
        · have lt := ct_lt hm q
          rw [fb_ct_succ, q, if_pos rfl] at ih
          refine ⟨fun _ => ⟨fun y => ih (fun j hj => ?_), fun y => ?_⟩, fun y => absurd y (by decide)⟩
          · rcases Nat.lt_or_ge j (fb_ct (sF S (ixF f)) m) with v | v
            · exact h j v
            · rw [show j = fb_ct (sF S (ixF f)) m by omega]; exact fun t => y t.symm
          · have ei : ixF i = fb_ct (sF S (ixF f)) m := by rw [← y]; exact pk_tn (by omega)
            have hA : aSetAt S f i = (0, nI m, S) := by
              rw [pre, if_neg, ei, kthF_eq q rfl]
              rintro (t | t)
              · rw [← y] at t; exact nI_pos (by omega) t
              · rw [← y] at t
                have := (nI_leI (by omega) (by omega)).mp t
                omega
            rw [hA]
            exact ⟨⟨rfl, g5⟩, st⟩
    exact L 0 (Nat.zero_le _) (fun j hj => absurd hj (Nat.not_lt_zero _))
  · have hA : aSetAt S f i = (1, 0, S) := if_pos e
    rw [hA, e]
    rw [e] at g5
    exact ⟨fun z => absurd z (by decide), fun _ => ⟨⟨rfl, g5⟩, st⟩⟩
  · have hA : aSetAt S f i = (2, 0, S) := (if_neg (by omega)).trans (if_pos e)
    rw [hA, e]
    rw [e] at g5
    exact ⟨fun z => absurd z (by decide), fun _ => ⟨⟨rfl, g5⟩, st⟩⟩
theorem mindexOf_C {f x : Int32} (R : RepM Γ σ own mad S c) (hd : 4 ≤ d) : CMN Γ d MX9_indexOf [.ref (mad 0), .int f, .int x] σ own mad c (aQ S f (vIdx x)) := by
  refine RUN.wf (fun W => eX9_indexOf ⟨R.2.1.1, mlook_call R ⟨R.2.1.1, fun σ5 e5 => ?_⟩ (by omega)⟩)
  obtain ⟨R5, F5, g5, st, W5⟩ := mq_code R W e5
  rw [g5]
  have n2 := R.n.2
  have bad : ∀ k, fcd S f = k → k ≠ 0 → k ≤ 2 → aQ S f (vIdx x) = (k, 0, S) → EV Γ MX9_indexOf d 23 [some (.ref (mad 0)), none, none, none, none] [] σ5 (fun oc σ' => ansM (aQ S f (vIdx x)) (mad 0) oc σ' ∧ StepM Γ σ own mad c (aQ S f (vIdx x)).2.2 σ') := by
    intro k e k0 k2 hA
    rw [e] at g5
    rw [hA]
    refine gX9_indexOf_23 ⟨R5.2.1.1, fun _ => ⟨⟨rfl, g5⟩, st⟩, fun y => ?_⟩
    rw [g5] at y
    exact absurd y (nI_ne0 (by omega) (by omega))
  rcases fcd_le S f with e | e | e
  · rw [aQ_0 e]
    rw [e] at g5 ⊢
    have no : ¬ (isM x ∧ sF S (ixF f) (ixF x) = true) → vIdx x (sF S (ixF f)) = -1 := fun t => by
      unfold vIdx
      rw [if_neg (by rw [bd_false.mpr t]; decide)]
    refine ⟨fun y => absurd rfl y, fun _ => CI.of (d2 := 0) isMask_R (by omega) (fun r σ9 _ q => ?_)⟩
    obtain ⟨q1, q2⟩ := q
    rw [q1]
    rcases q2 with ⟨q2, hx⟩ | ⟨q2, hx⟩
    · subst q2
      obtain ⟨h1, h2⟩ := isM_ix hx
      refine ⟨fun _ => ⟨R5.2.1.1, mad 4, R5.2.1.2.2.2.2.1, ?_⟩, fun y => absurd y (by decide)⟩
      have ex : [Value.ref (mad 4), Value.int f, Value.int x] = [Value.ref (mad 4), Value.int f, Value.int (nI (ixF x))] := by rw [← h2]
      rw [ex]
      refine mhas_call R5 e h1 ?_ (by omega)
      cases q : sF S (ixF f) (ixF x)
      · refine ⟨fun y => absurd rfl y, fun _ => ?_⟩
        rw [no (fun t => by rw [q] at t; exact absurd t.2 (by decide))]
        exact ⟨⟨rfl, g5⟩, st⟩
      · refine ⟨fun _ => ?_, fun y => absurd y (by decide)⟩
        have ev : vIdx x (sF S (ixF f)) = nI (fb_ct (sF S (ixF f)) (ixF x)) := by
          unfold vIdx
          rw [if_pos (bd_true.mpr ⟨hx, q⟩)]
        rw [ev]
        have L : ∀ m, m ≤ ixF x → EV Γ MX9_indexOf d 55 [some (.ref (mad 0)), some (.int f), some (.int x), some (.int (nI (fb_ct (sF S (ixF f)) m))), some (.int (nI m))] [] σ5 (fun oc σ' => ansM (0, nI (fb_ct (sF S (ixF f)) (ixF x)), S) (mad 0) oc σ' ∧ StepM Γ σ own mad c S σ') := by
          refine upto _ ?_ (fun m hm ih => ?_)
          · refine gX9_indexOf_55 ⟨fun _ => ⟨⟨rfl, g5⟩, st⟩, fun y => absurd ?_ y⟩
            rw [← h2]; exact Int32.le_refl _
          · refine gX9_indexOf_55 ⟨fun y => ?_, fun _ => ⟨R5.2.1.1, mad 4, R5.2.1.2.2.2.2.1, mhas_call R5 e (by omega) ?_ (by omega)⟩⟩
            · rw [h2] at y
              have := (nI_leI (by omega) (by omega)).mp y
              omega
            · rw [nI_1, nI_1, Int32.add_zero]
              cases q : sF S (ixF f) m
              · rw [fb_ct_succ, q, if_neg (by decide), Nat.add_zero] at ih
                exact ⟨fun _ => ih, fun y => absurd rfl y⟩
              · rw [fb_ct_succ, q, if_pos rfl] at ih
                exact ⟨fun y => absurd y (by decide), fun _ => ih⟩
        exact L 0 (Nat.zero_le _)
    · subst q2
      rw [no (fun t => hx t.1)]
      refine ⟨fun y => absurd rfl y, fun _ => gX9_indexOf_23 ⟨R5.2.1.1, fun y => absurd g5 y, fun _ => ⟨⟨rfl, g5⟩, st⟩⟩⟩
  · have b := bad 1 e (by omega) (by omega) (aQ_1 e)
    rw [e]
    exact ⟨fun _ => b, fun z => absurd z (by decide)⟩
  · have b := bad 2 e (by omega) (by omega) (aQ_2 e)
    rw [e]
    exact ⟨fun _ => b, fun z => absurd z (by decide)⟩
/-- a family's count asked for -/
theorem mmany_call {f : Int32} {K : Int32 → AH → Prop} {KX : String → AH → Prop} (R : RepM Γ σ own mad S c) (e : fcd S f = 0) (k : K (nI (cntF (sF S (ixF f)))) σ) (hd : 2 ≤ d) : CI Γ d MX9_many [.ref (mad 4), .int f] σ K KX := by
  have n2 := R.n.2
  obtain ⟨e1, e2, e3⟩ := fcd_0 n2 e
  have ef : [Value.ref (mad 4), Value.int f] = [Value.ref (mad 4), Value.int (nI (ixF f))] := by rw [← e1]
  rw [ef]
  refine CI.of (d2 := 1) (many_R R.2.2.1.2.2.2.1 (by omega) (by omega) (by omega)) (by omega) (fun r σ1 _ q => ?_)
  obtain ⟨q1, q2⟩ := q
  subst q1
  rw [q2, rct_fam, R.2.2.2.2.1.2.2.2.2.2 _ e3]; exact k
theorem mleastCost_C {f : Int32} (R : RepM Γ σ own mad S c) (hd : 4 ≤ d) : CMN Γ d MX9_leastCost [.ref (mad 0), .int f] σ own mad c (aQF S f (vLeast (sK S))) := by
  refine RUN.wf (fun W => eX9_leastCost ⟨R.2.1.1, mlook_call R ⟨R.2.1.1, fun σ5 e5 => ?_⟩ (by omega)⟩)
  obtain ⟨R5, F5, g5, st, W5⟩ := mq_code R W e5
  have c5 : hc σ5 = hc σ := by rw [e5]; rfl
  have v5 : hv σ5 = hv σ := by rw [e5]; rfl
  rw [g5]
  rcases fcd_le S f with e | e | e
  · have le := cntF_le (sF S (ixF f))
    rw [e] at g5 ⊢
    refine ⟨fun _ => ⟨mad 4, R5.2.1.2.2.2.2.1, mmany_call R5 e ⟨fun y => ?_, fun y => ?_⟩ (by omega)⟩, fun z => absurd rfl z⟩
    · have z : cntF (sF S (ixF f)) ≠ 0 := fun t => y (by rw [t]; rfl)
      rw [aQF_0 e z]
      have L : ∀ m, m ≤ 4096 → EV Γ MX9_leastCost d 41 [some (.ref (mad 0)), some (.int f), some (.int (foldF (sF S (ixF f)) (fun n m => if csum (sK S) 12 m < n then csum (sK S) 12 m else n) 12000 m)), some (.int (nI m))] [] σ5 (fun oc σ' => ansM (0, vLeast (sK S) (sF S (ixF f)), S) (mad 0) oc σ' ∧ StepM Γ σ own mad c S σ') := by
        refine upto 4096 ?_ (fun m hm ih => ?_)
        · exact gX9_leastCost_41 ⟨fun _ => ⟨⟨rfl, g5⟩, st⟩, fun y => absurd ((c4096le (by omega)).mpr (by omega)) y⟩
        · refine gX9_leastCost_41 ⟨fun y => absurd ((c4096le (by omega)).mp y) (by omega), fun _ => ⟨R5.2.1.1, mad 4, R5.2.1.2.2.2.2.1, mhas_call R5 e hm ?_ (by omega)⟩⟩
          rw [nI_1]
          cases q : sF S (ixF f) m
          · rw [fold_n q] at ih
            exact ⟨fun _ => ih, fun y => absurd rfl y⟩
          · rw [fold_y q] at ih
            exact ⟨fun y => absurd y (by decide), fun _ => ⟨R5.2.1.1, cost_call R5 hm ⟨by omega, ih⟩ (by omega)⟩⟩
      exact L 0 (Nat.zero_le _)
    · have z : cntF (sF S (ixF f)) = 0 := (nI_eq (b := 0) (by omega) (by omega)).mp y
      exact ⟨R5.2.1.1, mfail_any (k := 2) R5 F5 c5 v5 (aQF_3 e z) (by omega)⟩
  · rw [aQF_1 e, e]
    rw [e] at g5
    exact ⟨fun z => absurd z (by decide), fun _ => ⟨⟨rfl, g5⟩, st⟩⟩
  · rw [aQF_2 e, e]
    rw [e] at g5
    exact ⟨fun z => absurd z (by decide), fun _ => ⟨⟨rfl, g5⟩, st⟩⟩
/-- the sum of the costs never wraps -/
theorem sum_rng {k : Nat → Int32} (h : KB k) (F : Nat → Bool) : ∀ m : Nat, m ≤ 4096 → -12000 * (m : Int) ≤ (foldF F (fun n m => n + csum k 12 m) (0 : Int32) m).toInt ∧ (foldF F (fun n m => n + csum k 12 m) (0 : Int32) m).toInt ≤ 12000 * (m : Int) := by
  intro m
  induction m with
  | zero =>
    intro _
    have : (foldF F (fun n m => n + csum k 12 m) (0 : Int32) 0).toInt = 0 := rfl
    omega
  | succ m ih =>
    intro hm
    have i := ih (by omega)
    have r := csum_rng h m 12 (by omega)
    cases q : F m
    · rw [fold_n q]; omega
    · rw [fold_y q, Int32.toInt_add, Int.bmod_eq_of_le (by omega) (by omega)]
      omega
theorem sum_64 {k : Nat → Int32} (h : KB k) (F : Nat → Bool) {m : Nat} (hm : m < 4096) : (foldF F (fun n m => n + csum k 12 m) (0 : Int32) m).toInt64 + (csum k 12 m).toInt64 = (foldF F (fun n m => n + csum k 12 m) (0 : Int32) m + csum k 12 m).toInt64 := by
  have i := sum_rng h F m (by omega)
  have r := csum_rng h m 12 (by omega)
  apply Int64.toInt_inj.mp
  rw [Int64.toInt_add, Int32.toInt_toInt64, Int32.toInt_toInt64, Int32.toInt_toInt64, Int32.toInt_add, Int.bmod_eq_of_le (by omega) (by omega), Int.bmod_eq_of_le (by omega) (by omega)]
/-- what the model's mean is -/
def ansD (A : AnsT) (v : UInt64) (mo : Nat) (oc : Oc) (σ' : AH) : Prop := gi σ' mo 0 = nI A.1 ∧ ∃ x, oc = .inl (some (.double x)) ∧ (A.1 = 0 → x = v)
theorem mmeanCost_C {f : Int32} (R : RepM Γ σ own mad S c) (hd : 4 ≤ d) : RUN Γ d MX9_meanCost [.ref (mad 0), .int f] σ (fun oc σ' => ansD (aQF S f (fun _ => 0)) (vMean (sK S) (sF S (ixF f))) (mad 0) oc σ' ∧ StepM Γ σ own mad c S σ') := by
  refine RUN.wf (fun W => eX9_meanCost ⟨R.2.1.1, mlook_call R ⟨R.2.1.1, fun σ5 e5 => ?_⟩ (by omega)⟩)
  obtain ⟨R5, F5, g5, st, W5⟩ := mq_code R W e5
  have c5 : hc σ5 = hc σ := by rw [e5]; rfl
  have v5 : hv σ5 = hv σ := by rw [e5]; rfl
  rw [g5]
  have kb : KB (sK S) := R.2.2.2.2.2.2.2.2.2.2.2.2.1
  rcases fcd_le S f with e | e | e
  · have le := cntF_le (sF S (ixF f))
    rw [e] at g5 ⊢
    refine ⟨fun _ => ⟨mad 4, R5.2.1.2.2.2.2.1, mmany_call R5 e ⟨fun y => ?_, fun y => ?_⟩ (by omega)⟩, fun z => absurd rfl z⟩
    · have z : cntF (sF S (ixF f)) ≠ 0 := fun t => y (by rw [t]; rfl)
      rw [aQF_0 e z]
      have L : ∀ m, m ≤ 4096 → EV Γ MX9_meanCost d 45 [some (.ref (mad 0)), some (.int f), some (.long (foldF (sF S (ixF f)) (fun n m => n + csum (sK S) 12 m) (0 : Int32) m).toInt64), none, some (.int (nI (cntF (sF S (ixF f))))), some (.int (nI m))] [] σ5 (fun oc σ' => ansD (0, 0, S) (vMean (sK S) (sF S (ixF f))) (mad 0) oc σ' ∧ StepM Γ σ own mad c S σ') := by
        refine upto 4096 ?_ (fun m hm ih => ?_)
        · refine gX9_meanCost_45 ⟨fun _ => ?_, fun y => absurd ((c4096le (by omega)).mpr (by omega)) y⟩
          rw [l2d_i2d]
          exact ⟨mean_ok _ _ y, ⟨g5, _, rfl, fun _ => rfl⟩, st⟩
        · refine gX9_meanCost_45 ⟨fun y => absurd ((c4096le (by omega)).mp y) (by omega), fun _ => ⟨R5.2.1.1, mad 4, R5.2.1.2.2.2.2.1, mhas_call R5 e hm ?_ (by omega)⟩⟩
          rw [nI_1, Int64.add_zero]
          cases q : sF S (ixF f) m
          · rw [fold_n q] at ih
            exact ⟨fun _ => ih, fun y => absurd rfl y⟩
          · rw [fold_y q, ← sum_64 kb _ hm] at ih
            exact ⟨fun y => absurd y (by decide), fun _ => ⟨R5.2.1.1, cost_call R5 hm ih (by omega)⟩⟩
      exact L 0 (Nat.zero_le _)
    · have z : cntF (sF S (ixF f)) = 0 := (nI_eq (b := 0) (by omega) (by omega)).mp y
      refine ⟨R5.2.1.1, mfail_call R5 ?_ (by omega)⟩
      obtain ⟨R3, F3, g3⟩ := R5.thrown (x := nI 2)
      rw [aQF_3 e z]
      exact ⟨⟨g3, _, rfl, fun t => absurd (show (2 : Nat) = 0 from t) (by decide)⟩, StepM.same R3 (F5.trans (F3.mw (by rw [c5]))) c5 v5⟩
  · rw [aQF_1 e, e]
    rw [e] at g5
    exact ⟨fun z => absurd z (by decide), fun _ => ⟨⟨g5, _, rfl, fun t => absurd (show (1 : Nat) = 0 from t) (by decide)⟩, st⟩⟩
  · rw [aQF_2 e, e]
    rw [e] at g5
    exact ⟨fun z => absurd z (by decide), fun _ => ⟨⟨g5, _, rfl, fun t => absurd (show (2 : Nat) = 0 from t) (by decide)⟩, st⟩⟩
end MQ6
