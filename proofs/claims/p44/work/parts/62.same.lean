/-! PURE ROWS: the model's operations and the class's mean the same. -/
def clsOp (o : Nat) : Nat := if o = 1 then 43 else if o = 2 then 45 else if o = 3 then 38 else if o = 4 then 42 else if o = 5 then 47 else if o = 6 then 37 else if o = 7 then 1 else if o = 8 then 2 else if o = 9 then 3 else if o = 10 then 4 else if o = 11 then 5 else if o = 12 then 6 else 7
theorem same2 {o : Nat} (h1 : 1 ≤ o) (h9 : o ≤ 9) {F G : Nat → Bool} {m : Nat} (hm : m < 4096) : modP o F G m ↔ op2 (clsOp o) F G m := by
  have dp := dn_pos (F := G) hm
  have upp := upc_pos (F := G) hm
  match o, h1, h9 with
  | 1, _, _ =>
    show keptF 1 (F m) (G m) _ _ = true ↔ (F m = true ∨ G m = true)
    exact Bool.or_eq_true _ _ ▸ Iff.rfl
  | 2, _, _ =>
    show (F m && !G m) = true ↔ (F m = true ∧ G m = false)
    rw [Bool.and_eq_true, Bool.not_eq_true']
  | 3, _, _ =>
    show (F m && G m) = true ↔ (F m = true ∧ G m = true)
    rw [Bool.and_eq_true]
  | 4, _, _ => exact Iff.rfl
  | 5, _, _ => exact Iff.rfl
  | 6, _, _ => exact Iff.rfl
  | 7, _, _ => exact Iff.rfl
  | 8, _, _ =>
    show (F m && decide (0 < p2F 8 G m)) = true ↔ (F m = true ∧ hasDn G m)
    rw [Bool.and_eq_true, decide_eq_true_iff, show p2F 8 G m = dn G 12 m from if_pos rfl, dp]
  | 9, _, _ =>
    show (F m && decide (0 < p2F 9 G m)) = true ↔ (F m = true ∧ hasUp G m)
    rw [Bool.and_eq_true, decide_eq_true_iff, show p2F 9 G m = upc G 12 m from if_neg (by decide), upp]
theorem same1 {o : Nat} (h1 : 10 ≤ o) (h9 : o ≤ 13) {F G : Nat → Bool} {m : Nat} (hm : m < 4096) : modP o F G m ↔ op1 (clsOp o) F m := by
  match o, h1, h9 with
  | 10, _, _ =>
    show (F m && decide (p1F 10 F m = 1)) = true ↔ isMax F m
    rw [Bool.and_eq_true, decide_eq_true_iff, show p1F 10 F m = upc F 12 m from if_neg (by decide), upc_one hm]
  | 11, _, _ =>
    show (F m && decide (p1F 11 F m = 1)) = true ↔ isMin F m
    rw [Bool.and_eq_true, decide_eq_true_iff, show p1F 11 F m = dn F 12 m from if_pos rfl, dn_one hm]
  | 12, _, _ => exact Iff.rfl
  | 13, _, _ =>
    show decide (0 < p1F 13 F m) = true ↔ hasUp F m
    rw [decide_eq_true_iff, show p1F 13 F m = upc F 12 m from if_neg (by decide), upc_pos hm]

