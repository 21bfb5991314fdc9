/-! ROWS of FamilyStore: questions. Folds over the sets of a family. -/
theorem popN_12 {m : Nat} (hm : m < 4096) : popN 32 m = popN 12 m := by
  unfold popN
  have : fb_ct (fun k => m.testBit (12 + k)) 20 = 0 := fb_ct_zero.mpr (fun k _ => tb_big hm (by omega))
  rw [show (32 : Nat) = 12 + 20 from rfl, fb_ct_split, this, Nat.add_zero]
def aQ (S : StT) (f : Int32) (v : (Nat → Bool) → Int32) : AnsT := if fcd S f = 1 then (1, 0, S) else if fcd S f = 2 then (2, 0, S) else (0, v (sF S (ixF f)), S)
def aQ2 (S : StT) (f g : Int32) (v : (Nat → Bool) → (Nat → Bool) → Int32) : AnsT := if fcd S f = 1 ∨ fcd S g = 1 then (1, 0, S) else if fcd S f = 2 ∨ fcd S g = 2 then (2, 0, S) else (0, v (sF S (ixF f)) (sF S (ixF g)), S)
theorem aQ_0 {S : StT} {f : Int32} {v : (Nat → Bool) → Int32} (h : fcd S f = 0) : aQ S f v = (0, v (sF S (ixF f)), S) := (if_neg (by omega)).trans (if_neg (by omega))
theorem aQ_1 {S : StT} {f : Int32} {v : (Nat → Bool) → Int32} (h : fcd S f = 1) : aQ S f v = (1, 0, S) := if_pos h
theorem aQ_2 {S : StT} {f : Int32} {v : (Nat → Bool) → Int32} (h : fcd S f = 2) : aQ S f v = (2, 0, S) := (if_neg (by omega)).trans (if_pos h)
noncomputable def vHas (x : Int32) (F : Nat → Bool) : Int32 := if bd (isM x) = true then b2i (F (ixF x)) else 0
noncomputable def vSub (F G : Nat → Bool) : Int32 := b2i (bd (∀ x, F x = true → G x = true))
noncomputable def vEq (F G : Nat → Bool) : Int32 := b2i (bd (F = G))
section QY
variable {Γ : Gm} {d : Nat} {σ : AH} {own ad : Nat → Nat} {S : StT} {c w : Nat}
theorem count_R {f : Int32} (R : RepC Γ σ own ad S c w) (hd : 9 ≤ d) : CLM Γ d MX8_count [.ref (ad 0), .int f] σ own ad c w [IOB, NSE] (aQ S f (fun F => nI (cntF F))) := by
  refine RUN.wf (fun W => eX8_count ⟨R.x0, fo_call R (fun e => ?_) (fun e => ?_) (fun fo A => ?_) (by omega)⟩)
  · rw [aQ_1 e]; exact ⟨rfl, StepC.thr R W⟩
  · rw [aQ_2 e]; exact ⟨rfl, StepC.thr R W⟩
  · obtain ⟨ra, ka, a0, a1, a2, a3, a4, a5, a6, a7, a8, a9, a10, a11, a12, a13, a14, a15, a16⟩ := A
    rw [aQ_0 a0, a9]
    exact ⟨a5, rfl, StepC.refl R W⟩
theorem isM_ix {x : Int32} (h : isM x) : ixF x < 4096 ∧ x = nI (ixF x) := by
  obtain ⟨m, hm, rfl⟩ := isM_of h
  have : ixF (nI m) = m := pk_tn (by omega)
  rw [this]; exact ⟨hm, rfl⟩
theorem nar01 (b : Bool) : narrow .boolean (.int (b2i b)) = .int (b2i b) := by cases b <;> rfl
theorem has_call {x : Int32} {row : Nat} {K : Int32 → AH → Prop} {KX : String → AH → Prop} (hr : hs σ row = some (23, 64)) (k : K (vHas x (fam (gj σ row))) σ) (hd : 1 ≤ d) : CI Γ d MX7_has [.ref row, .int x] σ K KX := by
  by_cases h : isM x
  · obtain ⟨h1, h2⟩ := isM_ix h
    have e : vHas x (fam (gj σ row)) = b2i (bs (gj σ row) (ixF x)) := by unfold vHas; rw [if_pos (bd_true.mpr h), fam_lt _ h1]
    rw [e] at k
    rw [h2]
    refine CI.of (d2 := 0) (has_R hr (by omega) h1) (by omega) (fun r σ1 _ q => ?_)
    obtain ⟨rfl, rfl⟩ := q
    exact k
  · have e : vHas x (fam (gj σ row)) = 0 := by unfold vHas; rw [if_neg (by rw [bd_false.mpr h]; decide)]
    rw [e] at k
    refine CI.of (d2 := 0) (has_R0 h) (by omega) (fun r σ1 _ q => ?_)
    obtain ⟨rfl, rfl⟩ := q
    exact k
theorem vHas_b (x : Int32) (F : Nat → Bool) : ∃ b, vHas x F = b2i b := by
  unfold vHas
  split
  · exact ⟨_, rfl⟩
  · exact ⟨false, rfl⟩
theorem contains_R {f x : Int32} (R : RepC Γ σ own ad S c w) (hd : 9 ≤ d) : CLM Γ d MX8_contains [.ref (ad 0), .int f, .int x] σ own ad c w [IOB, NSE] (aQ S f (vHas x)) := by
  refine RUN.wf (fun W => eX8_contains ⟨R.x0, fo_call R (fun e => ?_) (fun e => ?_) (fun fo A => ?_) (by omega)⟩)
  · rw [aQ_1 e]; exact ⟨rfl, StepC.thr R W⟩
  · rw [aQ_2 e]; exact ⟨rfl, StepC.thr R W⟩
  · obtain ⟨ra, ka, a0, a1, a2, a3, a4, a5, a6, a7, a8, a9, a10, a11, a12, a13, a14, a15, a16⟩ := A
    rw [aQ_0 a0]
    refine ⟨a5, ra, a6, has_call a7 ?_ (by omega)⟩
    rw [a8]
    obtain ⟨b, hb⟩ := vHas_b x (sF S (ixF f))
    exact ⟨by rw [hb]; exact nar01 b, rfl, StepC.refl R W⟩
end QY

