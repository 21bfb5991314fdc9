/-! ROWS of the model: families made from sets. -/
theorem acc_skip {G : Nat → Bool} {m : Nat} (h : G m = false) : (fun k => decide (k < m + 1) && G k) = (fun k => decide (k < m) && G k) := by
  funext k
  by_cases e : k = m
  · rw [e, h, Bool.and_false, Bool.and_false]
  · rw [show decide (k < m + 1) = decide (k < m) from decide_eq_decide.mpr (by omega)]
theorem acc_take {G : Nat → Bool} {m : Nat} (h : G m = true) : (fun k => (decide (k < m) && G k) || decide (k = m)) = (fun k => decide (k < m + 1) && G k) := by
  funext k
  by_cases e : k = m
  · rw [e, h, decide_eq_true rfl, decide_eq_true (Nat.lt_succ_self m), Bool.or_true]; rfl
  · rw [decide_eq_false e, Bool.or_false, show decide (k < m + 1) = decide (k < m) from decide_eq_decide.mpr (by omega)]
theorem acc_end {G : Nat → Bool} (h : sup G) : (fun k => decide (k < 4096) && G k) = G := by
  funext k
  cases q : G k
  · rw [Bool.and_false]
  · rw [decide_eq_true (h k q)]; rfl
theorem acc_zero (G : Nat → Bool) : (fun k => decide (k < 0) && G k) = zf := by
  funext k
  rw [decide_eq_false (by omega)]; rfl
theorem i_neg1 {z : Int32} (h1 : z < 0) (h2 : ¬ z < -1) : z = -1 := by
  apply Int32.toInt_inj.mp
  have p1 := Int32.lt_iff_toInt_lt.mp h1
  have p2 : ¬ z.toInt < (-1 : Int32).toInt := fun t => h2 (Int32.lt_iff_toInt_lt.mpr t)
  have q1 : (0 : Int32).toInt = 0 := by decide
  have q2 : (-1 : Int32).toInt = -1 := by decide
  omega
theorem flip_x {m e : Nat} (he : e < 12) : nI m ^^^ ((1 : Int32) <<< (nI e &&& 31)) = nI (flp e m) := by
  rw [el_bit e he]
  refine b_ext (fun i hi => ?_)
  rw [b_xor, b_nI m hi, b_nI _ hi, b_nI _ hi, tb_flp, Nat.testBit_two_pow]
  congr 1
  exact decide_eq_decide.mpr ⟨fun z => z.symm, fun z => z.symm⟩
theorem flp_flp (e m : Nat) : flp e (flp e m) = m := Nat.eq_of_testBit_eq (fun i => by
  rw [tb_flp, tb_flp]
  cases m.testBit i <;> cases decide (i = e) <;> rfl)
section MP1
variable {Γ : Gm} {d : Nat} {σ : AH} {own mad : Nat → Nat} {S : StT} {c : Nat}
theorem RepM.full (R : RepM Γ σ own mad S c) : gi σ (mad 0) 6 = 200 ↔ sN S = 200 := by
  have := R.n.2
  rw [R.n.1]
  exact nI_eq (b := 200) (by omega) (by omega)
/-- fail from anywhere on the walk -/
theorem mfail_any {k : Nat} {τ : AH} {A : AnsT} (R : RepM Γ τ own mad S c) (F : FR (RP MW own (lo Γ + hc σ)) σ τ) (h1 : hc τ = hc σ) (h2 : hv τ = hv σ) (hA : A = (k, 0, S)) (hd : 1 ≤ d) : CI Γ d MX9_fail [.ref (mad 0), .int (nI k)] τ (fun r2 σ1 => ansM A (mad 0) (.inl (some (.int r2))) σ1 ∧ StepM Γ σ own mad c A.2.2 σ1) (fun E σ1 => ansM A (mad 0) (.inr E) σ1 ∧ StepM Γ σ own mad c A.2.2 σ1) := by
  refine mfail_call R ?_ hd
  obtain ⟨R3, F3, g3⟩ := R.thrown (x := nI k)
  rw [hA]
  exact ⟨⟨rfl, g3⟩, StepM.same R3 (F.trans (F3.mw (by rw [h1]))) h1 h2⟩
theorem MK.ans {τ : AH} {F : Nat → Bool} {A : AnsT} (h : MK Γ σ own mad S c τ F) (hn : sN S < 200) (hA : A = (0, nI (sN S), stA S F)) (hd : 1 ≤ d) : CI Γ d MX9_made [.ref (mad 0)] τ (fun r2 σ1 => ansM A (mad 0) (.inl (some (.int r2))) σ1 ∧ StepM Γ σ own mad c A.2.2 σ1) (fun E σ1 => ansM A (mad 0) (.inr E) σ1 ∧ StepM Γ σ own mad c A.2.2 σ1) := by
  rw [hA]
  exact h.made hn (fun σ' g st => ⟨⟨rfl, g⟩, st⟩) hd
theorem cost_call {m : Nat} {K : Int32 → AH → Prop} {KX : String → AH → Prop} (R : RepM Γ σ own mad S c) (hm : m < 4096) (k : K (csum (sK S) 12 m) σ) (hd : 1 ≤ d) : CI Γ d MX9_costOf [.ref (mad 0), .int (nI m)] σ K KX := by
  refine CI.of (d2 := 0) (costOf_R R.2.1.1 R.2.1.2.2.2.2.2.1 R.2.2.1.2.2.2.2.1 R.2.2.2.2.1.2.2.2.1 hm) (by omega) (fun r σ1 _ q => ?_)
  obtain ⟨q1, q2⟩ := q
  subst q1
  rw [q2]; exact k
theorem MK.has {τ : AH} {F : Nat → Bool} {f : Int32} {m : Nat} {K : Int32 → AH → Prop} {KX : String → AH → Prop} (h : MK Γ σ own mad S c τ F) (e : fcd S f = 0) (hm : m < 4096) (k : K (b2i (sF S (ixF f) m)) τ) (hd : 1 ≤ d) : CI Γ d MX9_has [.ref (mad 4), .int f, .int (nI m)] τ K KX := mhas_call h.1 e hm k hd
theorem msingle_C {x : Int32} (R : RepM Γ σ own mad S c) (hd : 4 ≤ d) : CMN Γ d MX9_single [.ref (mad 0), .int x] σ own mad c (aSingle S x) := by
  refine RUN.wf (fun W => eX9_single ⟨R.2.1.1, fun σ2 e2 => ?_⟩)
  obtain ⟨R2, F2, g2, st, W2⟩ := mq_code R W e2
  have c2 : hc σ2 = hc σ := by rw [e2]; rfl
  have v2 : hv σ2 = hv σ := by rw [e2]; rfl
  have n2 := R.n.2
  refine CI.of (d2 := 0) isMask_R (by omega) (fun r σ5 W5 q => ?_)
  obtain ⟨q1, q2⟩ := q
  subst q1
  rcases q2 with ⟨q2, hx⟩ | ⟨q2, hx⟩
  · subst q2
    obtain ⟨h1, h2⟩ := isM_ix hx
    refine ⟨fun _ => ⟨R2.2.1.1, fun z => ?_, fun z => ?_⟩, fun z => absurd z (by decide)⟩
    · have hn : sN S < 200 := by have : sN S ≠ 200 := fun y => z (R2.full.mpr y); omega
      have hA : aSingle S x = (0, nI (sN S), stA S (sngF (ixF x))) := (if_neg (fun y => bd_false.mp y hx)).trans (if_neg (by omega))
      refine ⟨mad 9, R2.2.1.2.2.2.2.2.2.2.2.2.1, mk_clear R2 F2 c2 v2 g2 (fun τ W' h => ⟨h.1.2.1.1, mad 9, h.1.2.1.2.2.2.2.2.2.2.2.2.1, ?_⟩) (by omega)⟩
      have ex : [Value.ref (mad 9), Value.int 0, Value.int x] = [Value.ref (mad 9), Value.int 0, Value.int (nI (ixF x))] := by rw [← h2]
      rw [ex]
      refine h.put h1 (fun τ' W'' h' => ⟨h'.1.2.1.1, h'.ans hn (hA.trans ?_) (by omega)⟩) (by omega)
      rfl
    · exact mfail_any (k := 2) R2 F2 c2 v2 ((if_neg (fun y => bd_false.mp y hx)).trans (if_pos (R2.full.mp z))) (by omega)
  · subst q2
    refine ⟨fun z => absurd rfl z, fun _ => ⟨R2.2.1.1, ?_⟩⟩
    exact mfail_any (k := 1) R2 F2 c2 v2 (if_pos (bd_false.mpr hx)) (by omega)
theorem msubsetsOf_C {x z : Int32} (R : RepM Γ σ own mad S c) (hd : 4 ≤ d) : CMN Γ d MX9_subsetsOf [.ref (mad 0), .int x, .int z] σ own mad c (aSubs S x z) := by
  refine RUN.wf (fun W => eX9_subsetsOf ⟨R.2.1.1, fun σ2 e2 => ?_⟩)
  obtain ⟨R2, F2, g2, st, W2⟩ := mq_code R W e2
  have c2 : hc σ2 = hc σ := by rw [e2]; rfl
  have v2 : hv σ2 = hv σ := by rw [e2]; rfl
  have n2 := R.n.2
  have bad : (bd (isM x) = false ∨ z < -1 ∨ ¬ z ≤ 12) → EV Γ MX9_subsetsOf d 23 [some (.ref (mad 0)), none, none, none] [] σ2 (fun oc σ' => ansM (aSubs S x z) (mad 0) oc σ' ∧ StepM Γ σ own mad c (aSubs S x z).2.2 σ') := fun h =>
    gX9_subsetsOf_23 ⟨R2.2.1.1, mfail_any (k := 1) R2 F2 c2 v2 (if_pos h) (by omega)⟩
  refine CI.of (d2 := 0) isMask_R (by omega) (fun r σ5 W5 q => ?_)
  obtain ⟨q1, q2⟩ := q
  subst q1
  rcases q2 with ⟨q2, hx⟩ | ⟨q2, hx⟩
  · subst q2
    obtain ⟨h1, h2⟩ := isM_ix hx
    refine ⟨fun y => absurd y (by decide), fun _ => ⟨fun y => bad (Or.inr (Or.inl y)), fun y1 => ⟨fun y2 => ⟨R2.2.1.1, fun y => ?_, fun y => ?_⟩, fun y => bad (Or.inr (Or.inr y))⟩⟩⟩
    · have hn : sN S < 200 := by have : sN S ≠ 200 := fun t => y (R2.full.mpr t); omega
      have hA : aSubs S x z = (0, nI (sN S), stA S (sbsF (ixF x) z)) := (if_neg (fun t => t.elim (fun t => bd_false.mp t hx) (fun t => t.elim y1 (fun t => t y2)))).trans (if_neg (by omega))
      refine ⟨mad 9, R2.2.1.2.2.2.2.2.2.2.2.2.1, mk_clear R2 F2 c2 v2 g2 (fun τ W' h => ?_) (by omega)⟩
      have L : ∀ m, m ≤ 4096 → ∀ τ, MK Γ σ own mad S c τ (fun k => decide (k < m) && sbsF (ixF x) z k) → EV Γ MX9_subsetsOf d 55 [some (.ref (mad 0)), some (.int x), some (.int z), some (.int (nI m))] [] τ (fun oc σ' => ansM (aSubs S x z) (mad 0) oc σ' ∧ StepM Γ σ own mad c (aSubs S x z).2.2 σ') := by
        refine upto 4096 (fun τ h => ?_) (fun m hm ih τ h => ?_)
        · rw [acc_end (fun k hk => of_decide_eq_true (Bool.and_eq_true _ _ ▸ hk).1)] at h
          exact gX9_subsetsOf_55 ⟨fun _ => ⟨h.1.2.1.1, h.ans hn hA (by omega)⟩, fun t => absurd ((c4096le (by omega)).mpr (by omega)) t⟩
        · have skip : sbsF (ixF x) z m = false → EV Γ MX9_subsetsOf d 55 [some (.ref (mad 0)), some (.int x), some (.int z), some (.int (nI m + 1))] [] τ (fun oc σ' => ansM (aSubs S x z) (mad 0) oc σ' ∧ StepM Γ σ own mad c (aSubs S x z).2.2 σ') := fun t => by
            rw [nI_1]
            refine ih τ ?_
            rw [acc_skip t]; exact h
          have take : sbsF (ixF x) z m = true → EV Γ MX9_subsetsOf d 82 [some (.ref (mad 0)), some (.int x), some (.int z), some (.int (nI m))] [] τ (fun oc σ' => ansM (aSubs S x z) (mad 0) oc σ' ∧ StepM Γ σ own mad c (aSubs S x z).2.2 σ') := fun t =>
            gX9_subsetsOf_82 ⟨h.1.2.1.1, mad 9, h.1.2.1.2.2.2.2.2.2.2.2.2.1, h.put hm (fun τ' _ h' => by
              rw [nI_1]
              refine ih τ' ?_
              rw [← acc_take t]; exact h') (by omega)⟩
          have eS : sbsF (ixF x) z m = (bd (Sb m (ixF x)) && bd (z = -1 ∨ nI (popN 12 m) = z)) := by
            unfold sbsF
            rw [decide_eq_true hm]; rfl
          have sm := sub_mask (m := ixF x) hm
          rw [← h2] at sm
          refine gX9_subsetsOf_55 ⟨fun t => absurd ((c4096le (by omega)).mp t) (by omega), fun _ => ⟨fun t => skip ?_, fun t => ?_⟩⟩
          · rw [eS, bd_false.mpr (fun u => t (sm.mpr u))]; rfl
          · have e1 : bd (Sb m (ixF x)) = true := bd_true.mpr (sm.mp t)
            refine ⟨fun u => take ?_, fun u => CI.of (d2 := 1) (elementsIn_R hm) (by omega) (fun r σ7 _ q => ?_)⟩
            · rw [eS, e1, bd_true.mpr (Or.inl (i_neg1 u y1))]; rfl
            · obtain ⟨q1, q2⟩ := q
              subst q1
              rw [q2]
              have nz : z ≠ -1 := fun s => u (by rw [s]; decide)
              refine ⟨fun s => skip ?_, fun s => take ?_⟩
              · rw [eS, e1, bd_false.mpr (fun t => t.elim nz s)]; rfl
              · rw [eS, e1, bd_true.mpr (Or.inr s)]; rfl
      refine L 0 (Nat.zero_le _) τ ?_
      rw [acc_zero]; exact h
    · exact mfail_any (k := 2) R2 F2 c2 v2 ((if_neg (fun t => t.elim (fun t => bd_false.mp t hx) (fun t => t.elim y1 (fun t => t y2)))).trans (if_pos (R2.full.mp y))) (by omega)
  · subst q2
    exact ⟨fun _ => bad (Or.inl (bd_false.mpr hx)), fun t => absurd rfl t⟩
theorem mwithCost_C {f l h : Int32} (R : RepM Γ σ own mad S c) (hd : 4 ≤ d) : CMN Γ d MX9_withCost [.ref (mad 0), .int f, .int l, .int h] σ own mad c (aCost S f l h) := by
  refine RUN.wf (fun W => eX9_withCost ⟨R.2.1.1, mlook_call R ⟨R.2.1.1, fun σ5 e5 => ?_⟩ (by omega)⟩)
  obtain ⟨R5, F5, g5, st, W5⟩ := mq_code R W e5
  have c5 : hc σ5 = hc σ := by rw [e5]; rfl
  have v5 : hv σ5 = hv σ := by rw [e5]; rfl
  rw [g5]
  have n2 := R.n.2
  rcases fcd_le S f with e | e | e
  · rw [e]
    rw [e] at g5
    refine ⟨fun _ => ⟨fun z => ?_, fun z => ?_⟩, fun z => absurd rfl z⟩
    · have hn : sN S < 200 := by have : sN S ≠ 200 := fun t => z (R5.full.mpr t); omega
      have hA : aCost S f l h = (0, nI (sN S), stA S (wcF (sK S) l h (sF S (ixF f)))) := (if_neg (by omega)).trans ((if_neg (by omega)).trans (if_neg (by omega)))
      have sG : sup (wcF (sK S) l h (sF S (ixF f))) := fun k hk => R.2.2.2.2.2.2.2.2.2.2.2.1 _ (fcd_0 n2 e).2.2 k (Bool.and_eq_true _ _ ▸ hk).1
      refine ⟨mad 9, R5.2.1.2.2.2.2.2.2.2.2.2.1, mk_clear R5 F5 c5 v5 g5 (fun τ W' k => ?_) (by omega)⟩
      have L : ∀ m, m ≤ 4096 → ∀ τ, MK Γ σ own mad S c τ (fun k => decide (k < m) && wcF (sK S) l h (sF S (ixF f)) k) → EV Γ MX9_withCost d 45 [some (.ref (mad 0)), some (.int f), some (.int l), some (.int h), some (.int (nI m))] [] τ (fun oc σ' => ansM (aCost S f l h) (mad 0) oc σ' ∧ StepM Γ σ own mad c (aCost S f l h).2.2 σ') := by
        refine upto 4096 (fun τ k => ?_) (fun m hm ih τ k => ?_)
        · rw [acc_end sG] at k
          exact gX9_withCost_45 ⟨fun _ => ⟨k.1.2.1.1, k.ans hn hA (by omega)⟩, fun t => absurd ((c4096le (by omega)).mpr (by omega)) t⟩
        · have skip : wcF (sK S) l h (sF S (ixF f)) m = false → EV Γ MX9_withCost d 45 [some (.ref (mad 0)), some (.int f), some (.int l), some (.int h), some (.int (nI m + 1))] [] τ (fun oc σ' => ansM (aCost S f l h) (mad 0) oc σ' ∧ StepM Γ σ own mad c (aCost S f l h).2.2 σ') := fun t => by
            rw [nI_1]
            refine ih τ ?_
            rw [acc_skip t]; exact k
          refine gX9_withCost_45 ⟨fun t => absurd ((c4096le (by omega)).mp t) (by omega), fun _ => ⟨k.1.2.1.1, mad 4, k.1.2.1.2.2.2.2.1, k.has e hm ?_ (by omega)⟩⟩
          cases q : sF S (ixF f) m
          · refine ⟨fun _ => skip ?_, fun t => absurd rfl t⟩
            unfold wcF
            rw [q]; rfl
          · refine ⟨fun t => absurd t (by decide), fun _ => ⟨k.1.2.1.1, cost_call k.1 hm ⟨fun t => skip ?_, fun t => ⟨k.1.2.1.1, cost_call k.1 hm ⟨fun u => skip ?_, fun u => ⟨k.1.2.1.1, mad 9, k.1.2.1.2.2.2.2.2.2.2.2.2.1, k.put hm (fun τ' _ k' => ?_) (by omega)⟩⟩ (by omega)⟩⟩ (by omega)⟩⟩
            · unfold wcF
              rw [q, decide_eq_false (fun y => y t)]; rfl
            · unfold wcF
              rw [q, decide_eq_false (fun y : ¬ h < csum (sK S) 12 m => y u), Bool.and_false, Bool.and_false]
            · rw [nI_1]
              refine ih τ' ?_
              rw [← acc_take (G := wcF (sK S) l h (sF S (ixF f))) (m := m) (by unfold wcF; rw [q, decide_eq_true t, decide_eq_true u]; rfl)]; exact k'
      refine L 0 (Nat.zero_le _) τ ?_
      rw [acc_zero]; exact k
    · exact mfail_any (k := 3) R5 F5 c5 v5 ((if_neg (by omega)).trans ((if_neg (by omega)).trans (if_pos (R5.full.mp z)))) (by omega)
  · have hA : aCost S f l h = (1, 0, S) := if_pos e
    rw [hA, e]
    rw [e] at g5
    exact ⟨fun z => absurd z (by decide), fun _ => ⟨⟨rfl, g5⟩, st⟩⟩
  · have hA : aCost S f l h = (2, 0, S) := (if_neg (by omega)).trans (if_pos e)
    rw [hA, e]
    rw [e] at g5
    exact ⟨fun z => absurd z (by decide), fun _ => ⟨⟨rfl, g5⟩, st⟩⟩
/-- an element changed in every set -/
def chF (F : Nat → Bool) (e m : Nat) : Nat → Bool := fun k => decide (k < 4096) && (decide (flp e k < m) && F (flp e k))
theorem chF_skip {F : Nat → Bool} {e m : Nat} (h : F m = false) : chF F e (m + 1) = chF F e m := by
  funext k
  unfold chF
  by_cases y : flp e k = m
  · rw [y, h]; simp
  · rw [show decide (flp e k < m + 1) = decide (flp e k < m) from decide_eq_decide.mpr (by omega)]
theorem chF_take {F : Nat → Bool} {e m : Nat} (he : e < 12) (hm : m < 4096) (h : F m = true) : (fun k => chF F e m k || decide (k = flp e m)) = chF F e (m + 1) := by
  funext k
  unfold chF
  by_cases y : flp e k = m
  · have : k = flp e m := by rw [← y, flp_flp]
    rw [y, h, decide_eq_true this, Bool.or_true, decide_eq_true (Nat.lt_succ_self m), decide_eq_true (by rw [this]; exact flp_lt he hm)]; rfl
  · have : k ≠ flp e m := fun z => y (by rw [z, flp_flp])
    rw [decide_eq_false this, Bool.or_false, show decide (flp e k < m + 1) = decide (flp e k < m) from decide_eq_decide.mpr (by omega)]
theorem mchange_C {f e : Int32} (R : RepM Γ σ own mad S c) (hd : 4 ≤ d) : CMN Γ d MX9_change [.ref (mad 0), .int f, .int e] σ own mad c (aChange S f e) := by
  refine RUN.wf (fun W => eX9_change ⟨R.2.1.1, mlook_call R ?_ (by omega)⟩)
  have n2 := R.n.2
  -- the rest, from the code that is set
  have rest : ∀ k : Nat, k ≤ 2 → (k = 0 → fcd S f = 0 ∧ isE e) → (k ≠ 0 → aChange S f e = (k, 0, S)) → EV Γ MX9_change d 26 [some (.ref (mad 0)), some (.int f), some (.int e), none] [.int (nI k), .ref (mad 0)] σ (fun oc σ' => ansM (aChange S f e) (mad 0) oc σ' ∧ StepM Γ σ own mad c (aChange S f e).2.2 σ') := by
    intro k hk k0 kn
    refine gX9_change_26 ⟨R.2.1.1, fun σ5 e5 => ?_⟩
    obtain ⟨R5, F5, g5, st, W5⟩ := mq_code R W e5
    have c5 : hc σ5 = hc σ := by rw [e5]; rfl
    have v5 : hv σ5 = hv σ := by rw [e5]; rfl
    rw [g5]
    refine ⟨R5.2.1.1, fun z => ?_, fun z => ?_⟩
    · have hk0 : k = 0 := (nI_eq (b := 0) (by omega) (by omega)).mp z
      obtain ⟨hf, hx⟩ := k0 hk0
      rw [hk0] at g5
      obtain ⟨h1, h2⟩ := isE_ix hx
      refine ⟨fun z => ?_, fun z => ?_⟩
      · have hn : sN S < 200 := by have : sN S ≠ 200 := fun t => z (R5.full.mpr t); omega
        have hA : aChange S f e = (0, nI (sN S), stA S (fun m => decide (m < 4096) && sF S (ixF f) (flp (ixF e) m))) := (if_neg (fun y => y.elim (by omega) (fun y => bd_false.mp y hx))).trans ((if_neg (by omega)).trans (if_neg (by omega)))
        refine ⟨mad 9, R5.2.1.2.2.2.2.2.2.2.2.2.1, mk_clear R5 F5 c5 v5 g5 (fun τ W' k => ?_) (by omega)⟩
        have L : ∀ m, m ≤ 4096 → ∀ τ, MK Γ σ own mad S c τ (chF (sF S (ixF f)) (ixF e) m) → EV Γ MX9_change d 64 [some (.ref (mad 0)), some (.int f), some (.int e), some (.int (nI m))] [] τ (fun oc σ' => ansM (aChange S f e) (mad 0) oc σ' ∧ StepM Γ σ own mad c (aChange S f e).2.2 σ') := by
          refine upto 4096 (fun τ k => ?_) (fun m hm ih τ k => ?_)
          · have ee : chF (sF S (ixF f)) (ixF e) 4096 = fun m => decide (m < 4096) && sF S (ixF f) (flp (ixF e) m) := by
              funext x
              unfold chF
              rcases Nat.lt_or_ge x 4096 with v | v
              · rw [decide_eq_true (flp_lt h1 v)]; rfl
              · rw [decide_eq_false (Nat.not_lt.mpr v)]; rfl
            rw [ee] at k
            exact gX9_change_64 ⟨fun _ => ⟨k.1.2.1.1, k.ans hn hA (by omega)⟩, fun t => absurd ((c4096le (by omega)).mpr (by omega)) t⟩
          · refine gX9_change_64 ⟨fun t => absurd ((c4096le (by omega)).mp t) (by omega), fun _ => ⟨k.1.2.1.1, mad 4, k.1.2.1.2.2.2.2.1, k.has hf hm ?_ (by omega)⟩⟩
            rw [nI_1]
            cases q : sF S (ixF f) m
            · refine ⟨fun _ => ih τ ?_, fun t => absurd rfl t⟩
              rw [chF_skip q]; exact k
            · refine ⟨fun t => absurd t (by decide), fun _ => ⟨k.1.2.1.1, mad 9, k.1.2.1.2.2.2.2.2.2.2.2.2.1, ?_⟩⟩
              have ex : nI m ^^^ ((1 : Int32) <<< (e &&& 31)) = nI (flp (ixF e) m) := by
                have := flip_x (m := m) h1
                rw [← h2] at this; exact this
              rw [ex]
              refine k.put (flp_lt h1 hm) (fun τ' _ k' => ih τ' ?_) (by omega)
              rw [← chF_take h1 hm q]; exact k'
        refine L 0 (Nat.zero_le _) τ ?_
        have e0 : chF (sF S (ixF f)) (ixF e) 0 = zf := by
          funext x
          unfold chF
          rw [decide_eq_false (by omega : ¬ flp (ixF e) x < 0), Bool.false_and, Bool.and_false]; rfl
        rw [e0]; exact k
      · exact mfail_any (k := 3) R5 F5 c5 v5 ((if_neg (fun y => y.elim (by omega) (fun y => bd_false.mp y hx))).trans ((if_neg (by omega)).trans (if_pos (R5.full.mp z)))) (by omega)
    · have hk0 : k ≠ 0 := fun t => z (by rw [t]; rfl)
      rw [kn hk0]
      exact ⟨⟨rfl, g5⟩, st⟩
  refine ⟨fun z => ?_, fun z => ?_⟩
  · have e1 : fcd S f = 1 := (nI_eq (b := 1) (by have := fcd_le S f; omega) (by omega)).mp z
    exact rest 1 (by omega) (by omega) (fun _ => if_pos (Or.inl e1))
  · have e1 : fcd S f ≠ 1 := fun t => z (by rw [t]; rfl)
    refine CI.of (d2 := 0) isElement_R (by omega) (fun r σ5 _ q => ?_)
    obtain ⟨q1, q2⟩ := q
    subst q1
    rcases q2 with ⟨q2, hx⟩ | ⟨q2, hx⟩
    · subst q2
      refine ⟨fun _ => ⟨R.2.1.1, mlook_call R ?_ (by omega)⟩, fun t => absurd t (by decide)⟩
      have := fcd_le S f
      refine rest (fcd S f) (by omega) (fun t => ⟨t, hx⟩) (fun t => ?_)
      have e2 : fcd S f = 2 := by omega
      rw [e2]
      exact (if_neg (fun y => y.elim e1 (fun y => bd_false.mp y hx))).trans (if_pos e2)
    · subst q2
      exact ⟨fun t => absurd rfl t, fun _ => rest 1 (by omega) (by omega) (fun _ => if_pos (Or.inr (bd_false.mpr hx)))⟩
end MP1
