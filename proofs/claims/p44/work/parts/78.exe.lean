/-! PURE ROWS: what a program does with a stack of families. -/
noncomputable def opF (o : Nat) (F G : Nat → Bool) : Nat → Bool := fun m => decide (m < 4096) && bd (modP o F G m)
def sngF (x : Nat) : Nat → Bool := fun m => decide (m = x)
def cntF (F : Nat → Bool) : Nat := fb_ct F 4096
theorem fam_ext {r : Nat → Int64} {G : Nat → Bool} (sG : sup G) (h : ∀ m, m < 4096 → bs r m = G m) : fam r = G := by
  funext m
  rcases Nat.lt_or_ge m 4096 with c | c
  · rw [fam_lt r c]; exact h m c
  · have e1 : fam r m = false := by unfold fam; rw [decide_eq_false (by omega)]; rfl
    rw [e1]
    cases q : G m
    · rfl
    · exact absurd (sG m q) (by omega)
theorem opF_sup (o : Nat) (F G : Nat → Bool) : sup (opF o F G) := fun m h => by
  unfold opF at h
  rw [Bool.and_eq_true, decide_eq_true_iff] at h
  exact h.1
theorem opF_M {o : Nat} {f r s : Nat → Int64} (h : ∀ m, m < 4096 → (bs f m = true ↔ modP o (bs r) (bs s) m)) : fam f = opF o (fam r) (fam s) := by
  refine fam_ext (opF_sup _ _ _) (fun m hm => ?_)
  unfold opF
  rw [decide_eq_true hm, Bool.true_and]
  apply Bool.eq_iff_iff.mpr
  rw [bd_true, h m hm]
  exact modP_congr hm (fun x hx => (fam_lt r hx).symm) (fun x hx => (fam_lt s hx).symm)
theorem opF_1 {o : Nat} (h1 : 10 ≤ o) (h9 : o ≤ 13) {f r : Nat → Int64} (h : ∀ m, m < 4096 → (bs f m = true ↔ op1 (clsOp o) (bs r) m)) : fam f = opF o (fam r) (fam r) :=
  opF_M (fun m hm => (h m hm).trans (same1 h1 h9 hm).symm)
theorem opF_2 {o : Nat} (h1 : 1 ≤ o) (h9 : o ≤ 9) {f r s : Nat → Int64} (h : ∀ m, m < 4096 → (bs f m = true ↔ op2 (clsOp o) (bs r) (bs s) m)) : fam f = opF o (fam r) (fam s) :=
  opF_M (fun m hm => (h m hm).trans (same2 h1 h9 hm).symm)
theorem rct_fam (r : Nat → Int64) : rct r 4096 = cntF (fam r) := fb_ct_cong (fun m hm => (fam_lt r hm).symm)
theorem cntF_le (F : Nat → Bool) : cntF F ≤ 4096 := fb_ct_le _ _
theorem cntF_fam {r : Nat → Int64} : (∃ y, y < 4096 ∧ bs r y = true) ↔ cntF (fam r) ≠ 0 := by
  rw [← rct_fam]
  unfold rct
  constructor
  · intro ⟨y, hy, h⟩ e
    rw [fb_ct_zero.mp e y hy] at h
    exact absurd h (by decide)
  · intro h
    exact fb_ct_pos.mp (Nat.pos_of_ne_zero h)
/-- division (or its rest) by the empty family -/
def isDv (s : Nat) : Prop := s = 5 ∨ s = 6
