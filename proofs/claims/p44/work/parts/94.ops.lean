/-! ROWS of FamilyStore: families made from sets. -/
noncomputable def aSingle (S : StT) (x : Int32) : AnsT := if bd (isM x) = false then (1, 0, S) else if sN S = 200 then (2, 0, S) else (0, nI (sN S), stA S (sngF (ixF x)))
noncomputable def sbsF (m : Nat) (z : Int32) : Nat → Bool := fun k => decide (k < 4096) && (bd (Sb k m) && bd (z = -1 ∨ nI (popN 12 k) = z))
noncomputable def aSubs (S : StT) (x z : Int32) : AnsT := if bd (isM x) = false ∨ z < -1 ∨ ¬ z ≤ 12 then (1, 0, S) else if sN S = 200 then (2, 0, S) else (0, nI (sN S), stA S (sbsF (ixF x) z))
theorem b_nI (k : Nat) {i : Nat} (h : i < 32) : bt (nI k) i = k.testBit i := by
  unfold bt
  show (BitVec.ofNat 32 k).getLsbD i = _
  rw [BitVec.getLsbD_ofNat, decide_eq_true h]; rfl
theorem sub_mask {k m : Nat} (hk : k < 4096) : (nI k &&& (nI m ^^^ (-1))) = 0 ↔ Sb k m := by
  constructor
  · intro e i hi
    rcases Nat.lt_or_ge i 12 with h | h
    · have e := congrArg (fun x => bt x i) e
      simp only [b_and, b_xor, b_0, b_nI k (show i < 32 by omega), b_nI m (show i < 32 by omega), b_m1 i (by omega), hi] at e
      cases q : m.testBit i
      · rw [q] at e; exact absurd e (by decide)
      · rfl
    · rw [tb_big hk h] at hi; exact absurd hi (by decide)
  · intro h
    refine b_ext (fun i hi => ?_)
    rw [b_and, b_xor, b_0, b_nI k hi, b_nI m hi, b_m1 i hi]
    cases q : k.testBit i
    · rfl
    · rw [h i q]; rfl
theorem Sb_le {k m : Nat} (h : Sb k m) : k ≤ m := by
  have : k &&& m = k := Nat.eq_of_testBit_eq (fun i => by
    rw [Nat.testBit_and]
    cases q : k.testBit i
    · rfl
    · rw [h i q]; rfl)
  rw [← this]; exact Nat.and_le_right
section OPS
variable {Γ : Gm} {d : Nat} {σ : AH} {own ad : Nat → Nat} {S : StT} {c w : Nat}
/-- the row in work: what it holds -/
def WQ (Γ : Gm) (σ : AH) (own ad : Nat → Nat) (S : StT) (c w q : Nat) (τ : AH) (F : Nat → Bool) : Prop := RepC Γ τ (up own q 99) ad S c w ∧ FR (RP SW own (lo Γ + hc σ)) σ τ ∧ hs τ q = some (23, 64) ∧ fam (gj τ q) = F ∧ hc τ = hc σ + 1 ∧ hv τ = hv σ + 64 ∧ lo Γ + hc σ ≤ q
theorem WQ.new {τ : AH} (R : RepC Γ τ own ad S c w) (W : WF Γ τ) (F : FR (RP SW own (lo Γ + hc σ)) σ τ) (h1 : hc τ = hc σ) (h2 : hv τ = hv σ) : WQ Γ σ own ad S c w (lo Γ + hc τ) (mk τ (lo Γ + hc τ) 23 64) (fun _ => false) := by
  have FN : FR (RP (fun _ => False) own (lo Γ + hc τ)) τ (mk τ (lo Γ + hc τ) 23 64) := FR.mk 23 64 W (Or.inr (Nat.le_refl _))
  refine ⟨R.fresh W FN (Nat.le_refl _), F.trans (FN.mono (fun a ha => ha.elim (fun z => z.elim) (fun z => Or.inr (by rw [← h1]; exact z)))), hs_mk_s _ _ _ _, ?_, by rw [hc_mk, h1], by rw [hv_mk, h2], by omega⟩
  rw [gj_mk_s]
  funext m
  unfold fam
  have : bs (fun _ => 0) m = false := w_zero _
  rw [this, Bool.and_false]
theorem WQ.row {τ : AH} {q : Nat} {F : Nat → Bool} (h : WQ Γ σ own ad S c w q τ F) (W : WF Γ τ) (f : Nat → Int64) {G : Nat → Bool} (e : fam f = G) : WQ Γ σ own ad S c w q (rowJ τ q f) G := by
  obtain ⟨R, F1, h1, h2, h3, h4, h5⟩ := h
  have FN : FR (RP (fun r => r = 99) (up own q 99) (lo Γ + hc τ)) τ (rowJ τ q f) := FR.rowJ _ _ (Or.inl (up_same _ _ _))
  exact ⟨R.keep W FN (fun r z => Or.inr (by omega)) (fun _ _ _ => rfl), F1.trans (FR.rowJ _ _ (Or.inr h5)), h1, by rw [gj_row]; exact e, h3, h4, h5⟩
theorem fam_put (r : Nat → Int64) {m : Nat} (hm : m < 4096) : fam (rput r m) = fun x => fam r x || decide (x = m) := by
  funext x
  unfold fam
  rw [bs_rput]
  by_cases h : x = m
  · rw [decide_eq_true h, decide_eq_true (show x < 4096 by omega), Bool.or_true, Bool.or_true]; rfl
  · rw [decide_eq_false h, Bool.or_false, Bool.or_false]
theorem WQ.add {τ : AH} {q : Nat} {F : Nat → Bool} {K : Int32 → AH → Prop} {KX : String → AH → Prop} (h : WQ Γ σ own ad S c w q τ F) (hn : sN S < 200) (hd : 10 ≤ d) (k : ∀ σ', StepC Γ σ own ad c w (stA S F) σ' → K (nI (sN S)) σ') : CI Γ d MX8_addFamily [.ref (ad 0), .ref q] τ K KX := by
  obtain ⟨R, F1, h1, h2, h3, h4, h5⟩ := h
  exact add_call (w := w) R (fun a ha => up_ne _ _ (by omega)) (F1.cw (fun r z => z.cw)) h1 (up_same _ _ _) h5 hn (by omega) (by omega) hd (fun σ' st => k σ' (by rw [h2] at st; exact st))
theorem single_R {x : Int32} (R : RepC Γ σ own ad S c w) (hd : 10 ≤ d) : CLM Γ d MX8_single [.ref (ad 0), .int x] σ own ad c w [IAE, ISE] (aSingle S x) := by
  refine RUN.wf (fun W => eX8_single ⟨R.x0, mask_call (fun e => ?_) (fun e1 => ⟨R.x0, room_call R (fun e => ?_) (fun hn => ?_) (by omega)⟩) (by omega)⟩)
  · have hA : aSingle S x = (1, 0, S) := if_pos (bd_false.mpr e)
    rw [hA]; exact ⟨rfl, StepC.thr R W⟩
  · have hA : aSingle S x = (2, 0, S) := (if_neg (fun y => bd_false.mp y e1)).trans (if_pos e)
    rw [hA]; exact ⟨rfl, StepC.thr R W⟩
  · have hA : aSingle S x = (0, nI (sN S), stA S (sngF (ixF x))) := (if_neg (fun y => bd_false.mp y e1)).trans (if_neg (by omega))
    rw [hA]
    intro q τ eq et
    obtain ⟨z1, z2⟩ := isM_ix e1
    have Hq := WQ.new (σ := σ) R W (FR.refl _ _) rfl rfl
    rw [← eq, ← et] at Hq
    have Wt : WF Γ τ := by rw [et, eq]; exact W.mk
    have z2' : [Value.ref q, Value.int x] = [Value.ref q, Value.int (nI (ixF x))] := by rw [← z2]
    rw [z2']
    refine CV.of (d2 := 4) (put_R Hq.2.2.1 (by omega) z1) (by omega) (fun σ1 W1 y => ?_)
    rw [y]
    have Hq2 := Hq.row Wt (rput (gj τ q) (ixF x)) (G := sngF (ixF x)) (by rw [fam_put _ z1, Hq.2.2.2.1]; rfl)
    exact ⟨Hq2.1.x0, Hq2.add hn (by omega) (fun σ' st => ⟨rfl, st⟩)⟩
theorem subsetsOf_R {x z : Int32} (R : RepC Γ σ own ad S c w) (hd : 10 ≤ d) : CLM Γ d MX8_subsetsOf [.ref (ad 0), .int x, .int z] σ own ad c w [IAE, ISE] (aSubs S x z) := by
  refine RUN.wf (fun W => eX8_subsetsOf ⟨R.x0, mask_call (fun e => ?_) (fun e1 => ?_) (by omega)⟩)
  · have hA : aSubs S x z = (1, 0, S) := if_pos (Or.inl (bd_false.mpr e))
    rw [hA]; exact ⟨rfl, StepC.thr R W⟩
  · have h16 : (z < -1 ∨ ¬ z ≤ 12) → EV Γ MX8_subsetsOf d 16 [none, none, none, none, none] [] σ (fun oc σ' => ansO [IAE, ISE] (aSubs S x z) oc ∧ StepC Γ σ own ad c w (aSubs S x z).2.2 σ') := by
      intro h
      have hA : aSubs S x z = (1, 0, S) := if_pos (Or.inr h)
      rw [hA]; exact gX8_subsetsOf_16 ⟨by omega, rfl, StepC.thr R W⟩
    refine ⟨fun y => h16 (Or.inl y), fun y1 => ⟨fun y2 => ⟨R.x0, room_call R (fun e => ?_) (fun hn => ?_) (by omega)⟩, fun y => h16 (Or.inr y)⟩⟩
    · have hA : aSubs S x z = (2, 0, S) := (if_neg (fun y => y.elim (fun y => bd_false.mp y e1) (fun y => y.elim y1 (fun y => y y2)))).trans (if_pos e)
      rw [hA]; exact ⟨rfl, StepC.thr R W⟩
    · have hA : aSubs S x z = (0, nI (sN S), stA S (sbsF (ixF x) z)) := (if_neg (fun y => y.elim (fun y => bd_false.mp y e1) (fun y => y.elim y1 (fun y => y y2)))).trans (if_neg (by omega))
      rw [hA]
      intro q τ eq et
      obtain ⟨z1, z2⟩ := isM_ix e1
      have Hq := WQ.new (σ := σ) R W (FR.refl _ _) rfl rfl
      rw [← eq, ← et] at Hq
      have main : ∀ i, i ≤ 4096 → ∀ τ, WF Γ τ → WQ Γ σ own ad S c w q τ (fun k => decide (k < i) && sbsF (ixF x) z k) → EV Γ MX8_subsetsOf d 36 [some (.ref (ad 0)), some (.int x), some (.int z), some (.ref q), some (.int (nI i))] [] τ (fun oc σ' => ansO [IAE, ISE] (0, nI (sN S), stA S (sbsF (ixF x) z)) oc ∧ StepC Γ σ own ad c w (stA S (sbsF (ixF x) z)) σ') := by
        have fin : ∀ i τ, ixF x < i → WQ Γ σ own ad S c w q τ (fun k => decide (k < i) && sbsF (ixF x) z k) → EV Γ MX8_subsetsOf d 85 [some (.ref (ad 0)), none, none, some (.ref q), none] [] τ (fun oc σ' => ansO [IAE, ISE] (0, nI (sN S), stA S (sbsF (ixF x) z)) oc ∧ StepC Γ σ own ad c w (stA S (sbsF (ixF x) z)) σ') := by
          intro i τ hi H
          have e : (fun k => decide (k < i) && sbsF (ixF x) z k) = sbsF (ixF x) z := by
            funext k
            rcases Nat.lt_or_ge k i with h | h
            · rw [decide_eq_true h, Bool.true_and]
            · rw [decide_eq_false (by omega), Bool.false_and]
              unfold sbsF
              rw [bd_false.mpr (fun y => by have := Sb_le y; omega), Bool.false_and, Bool.and_false]
          rw [e] at H
          exact gX8_subsetsOf_85 ⟨H.1.x0, H.add hn (by omega) (fun σ' st => ⟨rfl, st⟩)⟩
        refine upto 4096 ?_ (fun i hi ih => ?_)
        · intro τ Wt H
          exact gX8_subsetsOf_36 ⟨fun _ => fin 4096 τ z1 H, fun _ => ⟨fun _ => fin 4096 τ z1 H, fun y => absurd ((c4096le (by omega)).mpr (by omega)) y⟩⟩
        · intro τ Wt H
          have step : ∀ τ', WF Γ τ' → ∀ b, sbsF (ixF x) z i = b → WQ Γ σ own ad S c w q τ' (fun k => (decide (k < i) && sbsF (ixF x) z k) || (decide (k = i) && b)) → EV Γ MX8_subsetsOf d 36 [some (.ref (ad 0)), some (.int x), some (.int z), some (.ref q), some (.int (nI i + 1))] [] τ' (fun oc σ' => ansO [IAE, ISE] (0, nI (sN S), stA S (sbsF (ixF x) z)) oc ∧ StepC Γ σ own ad c w (stA S (sbsF (ixF x) z)) σ') := by
            intro τ' W' b hb H'
            rw [nI_1]
            refine ih τ' W' ?_
            have e : (fun k => decide (k < i + 1) && sbsF (ixF x) z k) = fun k => (decide (k < i) && sbsF (ixF x) z k) || (decide (k = i) && b) := by
              funext k
              rcases Nat.lt_trichotomy k i with h | h | h
              · rw [decide_eq_true (show k < i + 1 by omega), decide_eq_true h, decide_eq_false (show ¬ k = i by omega), Bool.false_and, Bool.or_false]
              · rw [h, decide_eq_true (show i < i + 1 by omega), decide_eq_false (show ¬ i < i by omega), decide_eq_true rfl, Bool.true_and, Bool.true_and, Bool.false_and, Bool.false_or, hb]
              · rw [decide_eq_false (show ¬ k < i + 1 by omega), decide_eq_false (show ¬ k < i by omega), decide_eq_false (show ¬ k = i by omega), Bool.false_and, Bool.false_and]; rfl
            rw [e]; exact H'
          have same : (fun k => (decide (k < i) && sbsF (ixF x) z k) || (decide (k = i) && false)) = fun k => decide (k < i) && sbsF (ixF x) z k := by
            funext k
            rw [Bool.and_false, Bool.or_false]
          have skip : sbsF (ixF x) z i = false → EV Γ MX8_subsetsOf d 36 [some (.ref (ad 0)), some (.int x), some (.int z), some (.ref q), some (.int (nI i + 1))] [] τ (fun oc σ' => ansO [IAE, ISE] (0, nI (sN S), stA S (sbsF (ixF x) z)) oc ∧ StepC Γ σ own ad c w (stA S (sbsF (ixF x) z)) σ') := fun hb => step τ Wt false hb (by rw [same]; exact H)
          have take : sbsF (ixF x) z i = true → EV Γ MX8_subsetsOf d 73 [some (.ref (ad 0)), some (.int x), some (.int z), some (.ref q), some (.int (nI i))] [] τ (fun oc σ' => ansO [IAE, ISE] (0, nI (sN S), stA S (sbsF (ixF x) z)) oc ∧ StepC Γ σ own ad c w (stA S (sbsF (ixF x) z)) σ') := by
            intro hb
            refine gX8_subsetsOf_73 (CV.of (d2 := 4) (put_R H.2.2.1 (by omega) hi) (by omega) (fun σ1 W1 y => ?_))
            refine step σ1 W1 true hb ?_
            rw [y]
            refine H.row Wt _ ?_
            rw [fam_put _ hi, H.2.2.2.1]
            funext k
            rw [Bool.and_true]
          have eb : sbsF (ixF x) z i = (bd (Sb i (ixF x)) && bd (z = -1 ∨ nI (popN 12 i) = z)) := by
            unfold sbsF
            rw [decide_eq_true hi, Bool.true_and]
          refine gX8_subsetsOf_36 ⟨fun y => fin i τ ?_ H, fun y1 => ⟨fun y => absurd ((c4096le (by omega)).mp y) (by omega), fun _ => ⟨fun y => ?_, fun y => ⟨fun u => ?_, fun u => CI.of (d2 := 0) (bitc32_R i (by omega)) (by omega) (fun r σ1 _ t => ?_)⟩⟩⟩⟩
          · rw [z2] at y
            exact (nI_ltI (by omega) (by omega)).mp y
          · refine skip ?_
            rw [eb, bd_false.mpr (fun t => y (by rw [z2]; exact (sub_mask hi).mpr t)), Bool.false_and]
          · have hs' : Sb i (ixF x) := (sub_mask hi).mp (by rw [z2] at y; exact y)
            refine take ?_
            rw [eb, bd_true.mpr hs', bd_true.mpr (Or.inl u)]; rfl
          · have hs' : Sb i (ixF x) := (sub_mask hi).mp (by rw [z2] at y; exact y)
            obtain ⟨t1, rfl⟩ := t
            rw [t1, popN_12 hi]
            refine ⟨fun v => skip ?_, fun v => take ?_⟩
            · rw [eb, (bd_false.mpr (fun t => t.elim u v) : bd (z = -1 ∨ nI (popN 12 i) = z) = false), Bool.and_false]
            · rw [eb, bd_true.mpr hs', bd_true.mpr (Or.inr v)]; rfl
      have Wt : WF Γ τ := by rw [et, eq]; exact W.mk
      exact main 0 (Nat.zero_le _) τ Wt (by
        have e : (fun k => decide (k < 0) && sbsF (ixF x) z k) = fun _ => false := by
          funext k
          rw [decide_eq_false (by omega)]; rfl
        rw [e]; exact Hq)
end OPS

