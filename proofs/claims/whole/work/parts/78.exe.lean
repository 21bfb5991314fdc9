/-! PURE ROWS: what a program does with a stack of families. -/
noncomputable def opF (o : Nat) (F G : Nat → Bool) : Nat → Bool := fun m => decide (m < 4096) && bd (modP o F G m)
def sngF (x : Nat) : Nat → Bool := fun m => decide (m = x)
def cntF (F : Nat → Bool) : Nat := fb_ct F 4096
theorem fam_ext {r : Nat → Int64} {G : Nat → Bool} (sG : sup G) (h : ∀ m, m < 4096 → bs r m = G m) : fam r = G := by
  funext m
  rcases Nat.lt_or_ge m 4096 with c | c
  · rw [fam_lt r c]; exact h m c
  · have e1 : fam r m = false := by unfold fam; rw [decide_eq_false (by omega)]; rfl
    rw [e1]
    cases q : G m
    · rfl
    · exact absurd (sG m q) (by omega)
theorem opF_sup (o : Nat) (F G : Nat → Bool) : sup (opF o F G) := fun m h => by
  unfold opF at h
  rw [Bool.and_eq_true, decide_eq_true_iff] at h
  exact h.1
theorem sngF_sup {x : Nat} (h : x < 4096) : sup (sngF x) := fun m hm => by
  unfold sngF at hm
  rw [decide_eq_true_iff] at hm
  omega
theorem opF_M {o : Nat} {f r s : Nat → Int64} (h : ∀ m, m < 4096 → (bs f m = true ↔ modP o (bs r) (bs s) m)) : fam f = opF o (fam r) (fam s) := by
  refine fam_ext (opF_sup _ _ _) (fun m hm => ?_)
  unfold opF
  rw [decide_eq_true hm, Bool.true_and]
  apply Bool.eq_iff_iff.mpr
  rw [bd_true, h m hm]
  exact modP_congr hm (fun x hx => (fam_lt r hx).symm) (fun x hx => (fam_lt s hx).symm)
theorem opF_1 {o : Nat} (h1 : 10 ≤ o) (h9 : o ≤ 13) {f r : Nat → Int64} (h : ∀ m, m < 4096 → (bs f m = true ↔ op1 (clsOp o) (bs r) m)) : fam f = opF o (fam r) (fam r) :=
  opF_M (fun m hm => (h m hm).trans (same1 h1 h9 hm).symm)
theorem opF_2 {o : Nat} (h1 : 1 ≤ o) (h9 : o ≤ 9) {f r s : Nat → Int64} (h : ∀ m, m < 4096 → (bs f m = true ↔ op2 (clsOp o) (bs r) (bs s) m)) : fam f = opF o (fam r) (fam s) :=
  opF_M (fun m hm => (h m hm).trans (same2 h1 h9 hm).symm)
theorem rct_fam (r : Nat → Int64) : rct r 4096 = cntF (fam r) := fb_ct_cong (fun m hm => (fam_lt r hm).symm)
theorem cntF_le (F : Nat → Bool) : cntF F ≤ 4096 := fb_ct_le _ _
theorem cntF_0 {F : Nat → Bool} (sF : sup F) : cntF F = 0 ↔ F = zf := by
  unfold cntF
  rw [fb_ct_zero]
  constructor
  · intro h
    funext m
    rcases Nat.lt_or_ge m 4096 with c | c
    · exact h m c
    · cases q : F m
      · rfl
      · exact absurd (sF m q) (by omega)
  · intro h m _
    rw [h]; rfl
theorem cntF_fam {r : Nat → Int64} : (∃ y, y < 4096 ∧ bs r y = true) ↔ cntF (fam r) ≠ 0 := by
  rw [← rct_fam]
  unfold rct
  constructor
  · intro ⟨y, hy, h⟩ e
    rw [fb_ct_zero.mp e y hy] at h
    exact absurd h (by decide)
  · intro h
    exact fb_ct_pos.mp (Nat.pos_of_ne_zero h)
def pshF (FM : Nat → Nat → Bool) (s : Nat) : Nat → Bool := if s = 99 then zf else if s < 10000 then sngF (s - 100) else FM (s - 10000)
/-- division (or its rest) by the empty family -/
def isDv (s : Nat) : Prop := s = 5 ∨ s = 6
noncomputable def exe (FM : Nat → Nat → Bool) : List Nat → Nat → (Nat → Nat → Bool) → Option (Nat → Nat → Bool)
  | [], _, S => some S
  | s :: r, h, S => if 99 ≤ s then exe FM r (h + 1) (up S h (pshF FM s)) else if 10 ≤ s then exe FM r h (up S (h - 1) (opF s (S (h - 1)) (S (h - 1)))) else if bd (isDv s ∧ cntF (S (h - 1)) = 0) = true then none else exe FM r (h - 1) (up S (h - 2) (opF s (S (h - 2)) (S (h - 1))))
theorem exe_p {FM : Nat → Nat → Bool} {s : Nat} {r : List Nat} {h : Nat} {S : Nat → Nat → Bool} (hs' : 99 ≤ s) : exe FM (s :: r) h S = exe FM r (h + 1) (up S h (pshF FM s)) := if_pos hs'
theorem exe_u {FM : Nat → Nat → Bool} {s : Nat} {r : List Nat} {h : Nat} {S : Nat → Nat → Bool} (h9 : s < 99) (h1 : 10 ≤ s) : exe FM (s :: r) h S = exe FM r h (up S (h - 1) (opF s (S (h - 1)) (S (h - 1)))) := (if_neg (by omega)).trans (if_pos h1)
theorem exe_d {FM : Nat → Nat → Bool} {s : Nat} {r : List Nat} {h : Nat} {S : Nat → Nat → Bool} (h1 : s < 10) (hd : isDv s ∧ cntF (S (h - 1)) = 0) : exe FM (s :: r) h S = none := (if_neg (by omega)).trans ((if_neg (by omega)).trans (if_pos (bd_true.mpr hd)))
theorem exe_b {FM : Nat → Nat → Bool} {s : Nat} {r : List Nat} {h : Nat} {S : Nat → Nat → Bool} (h1 : s < 10) (hd : ¬ (isDv s ∧ cntF (S (h - 1)) = 0)) : exe FM (s :: r) h S = exe FM r (h - 1) (up S (h - 2) (opF s (S (h - 2)) (S (h - 1)))) := (if_neg (by omega)).trans ((if_neg (by omega)).trans (if_neg (by rw [bd_false.mpr hd]; decide)))
theorem okS_c {M s : Nat} {r : List Nat} {h k : Nat} : okS M (s :: r) h k = if 99 ≤ s then h < M ∧ okS M r (h + 1) k else if 10 ≤ s then 1 ≤ h ∧ okS M r h k else 2 ≤ h ∧ okS M r (h - 1) k := rfl
/-- what lies on the stack stays a family -/
theorem pshF_sup {FM : Nat → Nat → Bool} {n : Nat} {rel : Nat → Bool} {s : Nat} (hF : ∀ f, okf n rel f = true → sup (FM f)) (hs' : okStep n rel s) (h9 : 99 ≤ s) : sup (pshF FM s) := by
  unfold pshF
  rcases hs' with h | h | h | ⟨f, h1, h2, h3⟩
  · omega
  · rw [if_pos h]; exact sup_zf
  · rw [if_neg (by omega), if_pos (by omega)]; exact sngF_sup (by omega)
  · rw [if_neg (by omega), if_neg (by omega), h1, show 10000 + f - 10000 = f by omega]
    exact hF f (by unfold okf; rw [decide_eq_true h2, h3]; rfl)
