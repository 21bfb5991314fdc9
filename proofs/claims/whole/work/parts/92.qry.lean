/-! ROWS of FamilyStore: questions. Folds over the sets of a family. -/
def foldF {α : Type} (F : Nat → Bool) (h : α → Nat → α) (a0 : α) : Nat → α
  | 0 => a0
  | m + 1 => if F m = true then h (foldF F h a0 m) m else foldF F h a0 m
theorem fold_y {α : Type} {F : Nat → Bool} {h : α → Nat → α} {a0 : α} {m : Nat} (e : F m = true) : foldF F h a0 (m + 1) = h (foldF F h a0 m) m := if_pos e
theorem fold_n {α : Type} {F : Nat → Bool} {h : α → Nat → α} {a0 : α} {m : Nat} (e : F m = false) : foldF F h a0 (m + 1) = foldF F h a0 m := if_neg (by rw [e]; decide)
theorem fold_gap {α : Type} {F : Nat → Bool} {h : α → Nat → α} {a0 : α} (a : Nat) : ∀ b, a ≤ b → (∀ x, a ≤ x → x < b → F x = false) → foldF F h a0 b = foldF F h a0 a
  | 0, hb, _ => by rw [show a = 0 by omega]
  | b + 1, hb, hx => by
    rcases Nat.lt_or_ge b a with c | c
    · rw [show a = b + 1 by omega]
    · rw [fold_n (hx b c (by omega))]
      exact fold_gap a b c (fun x h1 h2 => hx x h1 (by omega))
theorem ct_same {F : Nat → Bool} {a b : Nat} (hab : a ≤ b) (e : fb_ct F a = fb_ct F b) : ∀ x, a ≤ x → x < b → F x = false := by
  intro x h1 h2
  cases q : F x
  · rfl
  · have e1 : fb_ct F (x + 1) = fb_ct F x + 1 := by rw [fb_ct_succ, q, if_pos rfl]
    have := fb_ct_mono F h1
    have := fb_ct_mono F (show x + 1 ≤ b by omega)
    omega
theorem fold_ct {α : Type} {F : Nat → Bool} {h : α → Nat → α} {a0 : α} {a b : Nat} (e : fb_ct F a = fb_ct F b) : foldF F h a0 a = foldF F h a0 b := by
  rcases Nat.le_total a b with c | c
  · exact (fold_gap a b c (ct_same c e)).symm
  · exact fold_gap b a c (ct_same c e.symm)
theorem rct_ct (r : Nat → Int64) {m : Nat} (hm : m ≤ 4096) : rct r m = fb_ct (fam r) m := fb_ct_cong (fun x hx => (fam_lt r (by omega)).symm)
/-- the i-th set of a list, and what comes behind it -/
theorem lst_step {r : Nat → Int64} {f : Nat → Int32} {i : Nat} (h : listed r f 4096) (hi : i < cntF (fam r)) : ∃ x, x < 4096 ∧ fam r x = true ∧ f i = nI x ∧ fb_ct (fam r) x = i ∧ fb_ct (fam r) (x + 1) = i + 1 := by
  obtain ⟨x, hx, hb, hc', hf⟩ := lst_at h (by rw [rct_fam]; exact hi)
  have e : fam r x = true := by rw [fam_lt r hx]; exact hb
  have e2 : fb_ct (fam r) x = i := by rw [← rct_ct r (by omega)]; exact hc'
  exact ⟨x, hx, e, hf, e2, by rw [fb_ct_succ, e, if_pos rfl, e2]⟩
theorem popN_12 {m : Nat} (hm : m < 4096) : popN 32 m = popN 12 m := by
  unfold popN
  have : fb_ct (fun k => m.testBit (12 + k)) 20 = 0 := fb_ct_zero.mpr (fun k _ => tb_big hm (by omega))
  rw [show (32 : Nat) = 12 + 20 from rfl, fb_ct_split, this, Nat.add_zero]
noncomputable def cardV (Q : (Nat → Bool) → Prop) : Nat := Classical.epsilon (cardN Q)
theorem cardV_eq {Q : (Nat → Bool) → Prop} {k : Nat} (h : cardN Q k) : cardV Q = k := cardN_one (Classical.epsilon_spec ⟨k, h⟩) h
noncomputable def kthF (F : Nat → Bool) (i : Nat) : Nat := Classical.epsilon (fun x => F x = true ∧ fb_ct F x = i)
theorem kthF_eq {F : Nat → Bool} {i x : Nat} (h : F x = true) (e : fb_ct F x = i) : kthF F i = x := by
  have := Classical.epsilon_spec (p := fun x => F x = true ∧ fb_ct F x = i) ⟨x, h, e⟩
  exact fb_ct_kth_one this.1 h (this.2.trans e.symm)
def aQ (S : StT) (f : Int32) (v : (Nat → Bool) → Int32) : AnsT := if fcd S f = 1 then (1, 0, S) else if fcd S f = 2 then (2, 0, S) else (0, v (sF S (ixF f)), S)
noncomputable def aQE (S : StT) (f e : Int32) (v : (Nat → Bool) → Int32) : AnsT := if fcd S f = 1 ∨ bd (isE e) = false then (1, 0, S) else if fcd S f = 2 then (2, 0, S) else (0, v (sF S (ixF f)), S)
def aQ2 (S : StT) (f g : Int32) (v : (Nat → Bool) → (Nat → Bool) → Int32) : AnsT := if fcd S f = 1 ∨ fcd S g = 1 then (1, 0, S) else if fcd S f = 2 ∨ fcd S g = 2 then (2, 0, S) else (0, v (sF S (ixF f)) (sF S (ixF g)), S)
/-- families that must have a set -/
def aQF (S : StT) (f : Int32) (v : (Nat → Bool) → Int32) : AnsT := if fcd S f = 1 then (1, 0, S) else if fcd S f = 2 then (2, 0, S) else if cntF (sF S (ixF f)) = 0 then (2, 0, S) else (0, v (sF S (ixF f)), S)
theorem aQ_0 {S : StT} {f : Int32} {v : (Nat → Bool) → Int32} (h : fcd S f = 0) : aQ S f v = (0, v (sF S (ixF f)), S) := (if_neg (by omega)).trans (if_neg (by omega))
theorem aQ_1 {S : StT} {f : Int32} {v : (Nat → Bool) → Int32} (h : fcd S f = 1) : aQ S f v = (1, 0, S) := if_pos h
theorem aQ_2 {S : StT} {f : Int32} {v : (Nat → Bool) → Int32} (h : fcd S f = 2) : aQ S f v = (2, 0, S) := (if_neg (by omega)).trans (if_pos h)
def vSize (z : Int32) (F : Nat → Bool) : Int32 := foldF F (fun n m => if nI (popN 12 m) = z then n + 1 else n) 0 4096
def vWith (e : Nat) (F : Nat → Bool) : Int32 := foldF F (fun n m => n + b2i (m.testBit e)) 0 4096
noncomputable def vHas (x : Int32) (F : Nat → Bool) : Int32 := if bd (isM x) = true then b2i (F (ixF x)) else 0
noncomputable def vSub (F G : Nat → Bool) : Int32 := b2i (bd (∀ x, F x = true → G x = true))
noncomputable def vEq (F G : Nat → Bool) : Int32 := b2i (bd (F = G))
noncomputable def vIdx (x : Int32) (F : Nat → Bool) : Int32 := if bd (isM x ∧ F (ixF x) = true) = true then nI (fb_ct F (ixF x)) else -1
noncomputable def vNod (F : Nat → Bool) : Int32 := nI (cardV (NP F))
section QY
variable {Γ : Gm} {d : Nat} {σ : AH} {own ad : Nat → Nat} {S : StT} {c w : Nat}
theorem fr_first {τ : AH} (R : RepC Γ σ own ad S c w) {f : Nat → Int32} (e : τ = rowI σ (ad 4) f) : FR (RP SW own (lo Γ + hc σ)) σ τ := by
  rw [e]; exact FR.rowI _ _ (Or.inl (by rw [(R.1 4 (by omega)).1]; unfold SW; omega))
theorem list_call {row : Nat} {K : Int32 → AH → Prop} {KX : String → AH → Prop} (R : RepC Γ σ own ad S c w) (hr : hs σ row = some (23, 64)) (k : ∀ g, listed (gj σ row) g 4096 → K (nI (cntF (fam (gj σ row)))) (rowI σ (ad 4) g)) (hd : 3 ≤ d) : CI Γ d MX7_list [.ref row, .ref (ad 4)] σ K KX := by
  have A := R.2.1.alg
  refine CI.of (d2 := 2) (list_R (b := ad 4) hr A.2.2.2.2.2.1 (by omega) (by omega) (by omega) (by omega)) (by omega) (fun r σ1 _ q => ?_)
  obtain ⟨rfl, g, rfl, hl⟩ := q
  rw [rct_fam]; exact k g hl
theorem count_R {f : Int32} (R : RepC Γ σ own ad S c w) (hd : 9 ≤ d) : CLM Γ d MX8_count [.ref (ad 0), .int f] σ own ad c w [IOB, NSE] (aQ S f (fun F => nI (cntF F))) := by
  refine RUN.wf (fun W => eX8_count ⟨R.x0, fo_call R (fun e => ?_) (fun e => ?_) (fun fo A => ?_) (by omega)⟩)
  · rw [aQ_1 e]; exact ⟨rfl, StepC.thr R W⟩
  · rw [aQ_2 e]; exact ⟨rfl, StepC.thr R W⟩
  · obtain ⟨ra, ka, a0, a1, a2, a3, a4, a5, a6, a7, a8, a9, a10, a11, a12, a13, a14, a15, a16⟩ := A
    rw [aQ_0 a0, a9]
    exact ⟨a5, rfl, StepC.refl R W⟩
theorem nodesOf_R {f : Int32} (R : RepC Γ σ own ad S c w) (hd : 9 ≤ d) : CLM Γ d MX8_nodesOf [.ref (ad 0), .int f] σ own ad c w [IOB, NSE] (aQ S f vNod) := by
  refine RUN.wf (fun W => eX8_nodesOf ⟨R.x0, fo_call R (fun e => ?_) (fun e => ?_) (fun fo A => ?_) (by omega)⟩)
  · rw [aQ_1 e]; exact ⟨rfl, StepC.thr R W⟩
  · rw [aQ_2 e]; exact ⟨rfl, StepC.thr R W⟩
  · obtain ⟨ra, ka, a0, a1, a2, a3, a4, a5, a6, a7, a8, a9, a10, a11, a12, a13, a14, a15, a16⟩ := A
    rw [aQ_0 a0, a10]
    refine ⟨a5, ?_, StepC.refl R W⟩
    show _ = Sum.inl (some (Value.int (nI (cardV (NP _)))))
    rw [cardV_eq a12]
theorem isM_ix {x : Int32} (h : isM x) : ixF x < 4096 ∧ x = nI (ixF x) := by
  obtain ⟨m, hm, rfl⟩ := isM_of h
  have : ixF (nI m) = m := pk_tn (by omega)
  rw [this]; exact ⟨hm, rfl⟩
theorem isE_ix {x : Int32} (h : isE x) : ixF x < 12 ∧ x = nI (ixF x) := by
  obtain ⟨m, hm, rfl⟩ := isE_of h
  have : ixF (nI m) = m := pk_tn (by omega)
  rw [this]; exact ⟨hm, rfl⟩
theorem nar01 (b : Bool) : narrow .boolean (.int (b2i b)) = .int (b2i b) := by cases b <;> rfl
theorem has_call {x : Int32} {row : Nat} {K : Int32 → AH → Prop} {KX : String → AH → Prop} (hr : hs σ row = some (23, 64)) (k : K (vHas x (fam (gj σ row))) σ) (hd : 1 ≤ d) : CI Γ d MX7_has [.ref row, .int x] σ K KX := by
  by_cases h : isM x
  · obtain ⟨h1, h2⟩ := isM_ix h
    have e : vHas x (fam (gj σ row)) = b2i (bs (gj σ row) (ixF x)) := by unfold vHas; rw [if_pos (bd_true.mpr h), fam_lt _ h1]
    rw [e] at k
    rw [h2]
    refine CI.of (d2 := 0) (has_R hr (by omega) h1) (by omega) (fun r σ1 _ q => ?_)
    obtain ⟨rfl, rfl⟩ := q
    exact k
  · have e : vHas x (fam (gj σ row)) = 0 := by unfold vHas; rw [if_neg (by rw [bd_false.mpr h]; decide)]
    rw [e] at k
    refine CI.of (d2 := 0) (has_R0 h) (by omega) (fun r σ1 _ q => ?_)
    obtain ⟨rfl, rfl⟩ := q
    exact k
theorem vHas_b (x : Int32) (F : Nat → Bool) : ∃ b, vHas x F = b2i b := by
  unfold vHas
  split
  · exact ⟨_, rfl⟩
  · exact ⟨false, rfl⟩
theorem contains_R {f x : Int32} (R : RepC Γ σ own ad S c w) (hd : 9 ≤ d) : CLM Γ d MX8_contains [.ref (ad 0), .int f, .int x] σ own ad c w [IOB, NSE] (aQ S f (vHas x)) := by
  refine RUN.wf (fun W => eX8_contains ⟨R.x0, fo_call R (fun e => ?_) (fun e => ?_) (fun fo A => ?_) (by omega)⟩)
  · rw [aQ_1 e]; exact ⟨rfl, StepC.thr R W⟩
  · rw [aQ_2 e]; exact ⟨rfl, StepC.thr R W⟩
  · obtain ⟨ra, ka, a0, a1, a2, a3, a4, a5, a6, a7, a8, a9, a10, a11, a12, a13, a14, a15, a16⟩ := A
    rw [aQ_0 a0]
    refine ⟨a5, ra, a6, has_call a7 ?_ (by omega)⟩
    rw [a8]
    obtain ⟨b, hb⟩ := vHas_b x (sF S (ixF f))
    exact ⟨by rw [hb]; exact nar01 b, rfl, StepC.refl R W⟩
theorem indexOf_R {f x : Int32} (R : RepC Γ σ own ad S c w) (hd : 9 ≤ d) : CLM Γ d MX8_indexOf [.ref (ad 0), .int f, .int x] σ own ad c w [IOB, NSE] (aQ S f (vIdx x)) := by
  refine RUN.wf (fun W => eX8_indexOf ⟨R.x0, fo_call R (fun e => ?_) (fun e => ?_) (fun fo A => ?_) (by omega)⟩)
  · rw [aQ_1 e]; exact ⟨rfl, StepC.thr R W⟩
  · rw [aQ_2 e]; exact ⟨rfl, StepC.thr R W⟩
  · obtain ⟨ra, ka, a0, a1, a2, a3, a4, a5, a6, a7, a8, a9, a10, a11, a12, a13, a14, a15, a16⟩ := A
    rw [aQ_0 a0]
    refine ⟨a5, ra, a6, has_call a7 ?_ (by omega)⟩
    rw [a8]
    refine ⟨fun z => ?_, fun z => ⟨?_, StepC.refl R W⟩⟩
    · have h : isM x ∧ sF S (ixF f) (ixF x) = true := by
        unfold vHas at z
        split at z
        · rename_i hm
          exact ⟨bd_true.mp hm, (b2i_ne0 _).mp z⟩
        · exact absurd rfl z
      obtain ⟨h1, h2⟩ := isM_ix h.1
      refine ⟨a5, ra, a6, ?_⟩
      have e : vIdx x (sF S (ixF f)) = nI (rct (gj σ ra) (ixF x)) := by
        unfold vIdx
        rw [if_pos (bd_true.mpr h), rct_ct _ (by omega), a8]
      rw [h2]
      refine CI.of (d2 := 1) (sizeBelow_R a7 (by omega) h1 (by omega)) (by omega) (fun r σ1 _ q => ?_)
      obtain ⟨rfl, rfl⟩ := q
      refine ⟨?_, StepC.refl R W⟩
      show _ = Sum.inl (some (Value.int (vIdx (nI (ixF x)) (sF S (ixF f)))))
      rw [← h2, e]
    · show _ = Sum.inl (some (Value.int (vIdx x (sF S (ixF f)))))
      unfold vIdx
      rw [if_neg]
      intro y
      have y := bd_true.mp y
      unfold vHas at z
      rw [if_pos (bd_true.mpr y.1), y.2] at z
      exact absurd z (by decide)
end QY
