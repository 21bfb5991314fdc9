/-! ROWS of the model: isKept. -/
def keptF (o : Nat) (x y : Bool) (p1 p2 : Nat) : Bool := if o = 1 then x || y else if o = 2 then x && !y else if o = 3 then x && y else if o = 13 then decide (0 < p1) else if o = 8 then x && decide (0 < p2) else if o = 9 then x && decide (0 < p2) else x && decide (p1 = 1)
def isFl (o : Nat) : Prop := o = 1 ∨ o = 2 ∨ o = 3 ∨ o = 8 ∨ o = 9 ∨ o = 10 ∨ o = 11 ∨ o = 13
theorem isFl_no {o k : Nat} (h : isFl o) (hk : o = k) (hn : k = 4 ∨ k = 5 ∨ k = 6 ∨ k = 7 ∨ k = 12) : False := by
  rcases h with h | h | h | h | h | h | h | h <;> rcases hn with q | q | q | q | q <;> omega
theorem le0_n {x : Int64} {p : Nat} (h : x = lN p) (hp : p ≤ 4096) : lg_cmp x 0 ≤ 0 ↔ ¬ 0 < p := by
  rw [lg_cmp_le, h, show (0 : Int64) = lN 0 from rfl, pk_lLE (by omega) (by decide)]
  omega
theorem eq1_n {x : Int64} {p : Nat} (h : x = lN p) (hp : p ≤ 4096) : lg_cmp x 1 = 0 ↔ p = 1 := by
  rw [cmp0, h, show (1 : Int64) = lN 1 from rfl]
  exact fb_lN_inj (by omega) (by decide)
theorem isKept_R {Γ : Gm} {d : Nat} {σ : AH} {mo wk f1 f2 m o p1 p2 : Nat} {x y : Bool} (A : MA σ mo wk f1 f2) (hm : m < 4096) (ho : isFl o) (h1 : (o = 10 ∨ o = 11 ∨ o = 13) → gj σ f1 m = lN p1 ∧ p1 ≤ 4096) (h2 : (o = 8 ∨ o = 9) → gj σ f2 m = lN p2 ∧ p2 ≤ 4096) : RI Γ d MX9_isKept [.ref mo, .int (nI o), .int (nI m), .int (b2i x), .int (b2i y)] σ (fun r σ' => σ' = σ ∧ r = b2i (keptF o x y p1 p2)) := by
  have ol : o < 2 ^ 31 := by rcases ho with h | h | h | h | h | h | h | h <;> omega
  obtain ⟨A0, A1, A2, A3, A4, A5, A6, n1, n2, n3⟩ := A
  have one : ∀ k, o = k → (k = 10 ∨ k = 11) → (b2i x = 0 → (∃ r : Int32, (Sum.inl (some (Value.int 0)) : Oc) = .inl (some (.int r)) ∧ σ = σ ∧ r = b2i (keptF o x y p1 p2))) ∧ (¬ b2i x = 0 → hs σ mo = some (7, 27) ∧ ∃ t : Nat, gr σ mo 13 = some t ∧ ∃ n : Nat, hs σ t = some (23, n) ∧ ∃ j : Nat, IX (nI m) n j ∧ (((lg_cmp (gj σ t j) 1) ≠ 0 → (∃ r : Int32, (Sum.inl (some (Value.int 0)) : Oc) = .inl (some (.int r)) ∧ σ = σ ∧ r = b2i (keptF o x y p1 p2))) ∧ ((lg_cmp (gj σ t j) 1) = 0 → (∃ r : Int32, (Sum.inl (some (Value.int 1)) : Oc) = .inl (some (.int r)) ∧ σ = σ ∧ r = b2i (keptF o x y p1 p2))))) := by
    intro k hk hk2
    have kf : keptF o x y p1 p2 = (x && decide (p1 = 1)) := by
      unfold keptF
      rw [if_neg (by omega), if_neg (by omega), if_neg (by omega), if_neg (by omega), if_neg (by omega), if_neg (by omega)]
    obtain ⟨e1, e2⟩ := h1 (by omega)
    rw [kf]
    refine ⟨fun z => ⟨_, rfl, rfl, ?_⟩, fun z => ⟨A0, f1, A1, 4096, A4, m, IXn (by omega) (by omega), fun q => ⟨_, rfl, rfl, ?_⟩, fun q => ⟨_, rfl, rfl, ?_⟩⟩⟩
    · rw [(b2i_0 x).mp z]; rfl
    · rw [decide_eq_false (fun w => q ((eq1_n e1 e2).mpr w)), Bool.and_false]; rfl
    · rw [ts_nf (fun w => z ((b2i_0 x).mpr w)), decide_eq_true ((eq1_n e1 e2).mp q)]; rfl
  have two : ∀ k, o = k → (k = 8 ∨ k = 9) → (b2i x = 0 → (∃ r : Int32, (Sum.inl (some (Value.int 0)) : Oc) = .inl (some (.int r)) ∧ σ = σ ∧ r = b2i (keptF o x y p1 p2))) ∧ (¬ b2i x = 0 → hs σ mo = some (7, 27) ∧ ∃ t : Nat, gr σ mo 14 = some t ∧ ∃ n : Nat, hs σ t = some (23, n) ∧ ∃ j : Nat, IX (nI m) n j ∧ (((lg_cmp (gj σ t j) 0) ≤ 0 → (∃ r : Int32, (Sum.inl (some (Value.int 0)) : Oc) = .inl (some (.int r)) ∧ σ = σ ∧ r = b2i (keptF o x y p1 p2))) ∧ (¬ (lg_cmp (gj σ t j) 0) ≤ 0 → (∃ r : Int32, (Sum.inl (some (Value.int 1)) : Oc) = .inl (some (.int r)) ∧ σ = σ ∧ r = b2i (keptF o x y p1 p2))))) := by
    intro k hk hk2
    have kf : keptF o x y p1 p2 = (x && decide (0 < p2)) := by
      unfold keptF
      rw [if_neg (by omega), if_neg (by omega), if_neg (by omega), if_neg (by omega)]
      by_cases c : o = 8
      · rw [if_pos c]
      · rw [if_neg c, if_pos (by omega)]
    obtain ⟨e1, e2⟩ := h2 (by omega)
    rw [kf]
    refine ⟨fun z => ⟨_, rfl, rfl, ?_⟩, fun z => ⟨A0, f2, A2, 4096, A5, m, IXn (by omega) (by omega), fun q => ⟨_, rfl, rfl, ?_⟩, fun q => ⟨_, rfl, rfl, ?_⟩⟩⟩
    · rw [(b2i_0 x).mp z]; rfl
    · rw [decide_eq_false ((le0_n e1 e2).mp q), Bool.and_false]; rfl
    · rw [ts_nf (fun w => z ((b2i_0 x).mpr w)), decide_eq_true (show 0 < p2 from Decidable.byContradiction (fun w => q ((le0_n e1 e2).mpr w)))]; rfl
  refine eX9_isKept ?_
  rw [toI_n ol]
  refine ⟨fun c => ?_, fun c => ?_, fun c => ?_, fun c => (isFl_no ho (k := 4) (by omega) (by omega)).elim, fun c => (isFl_no ho (k := 5) (by omega) (by omega)).elim, fun c => (isFl_no ho (k := 6) (by omega) (by omega)).elim, fun c => (isFl_no ho (k := 7) (by omega) (by omega)).elim, fun c => two 8 (by omega) (by omega), fun c => two 9 (by omega) (by omega), fun c => one 10 (by omega) (by omega), fun c => one 11 (by omega) (by omega), fun c => (isFl_no ho (k := 12) (by omega) (by omega)).elim, fun c => ?_, fun c => absurd c (by rcases ho with h | h | h | h | h | h | h | h <;> omega)⟩
  · have e : o = 1 := by omega
    subst e
    exact ⟨fun z => ⟨_, rfl, rfl, by cases x; exact absurd rfl z; rfl⟩, fun z => ⟨fun w => ⟨_, rfl, rfl, by rw [(b2i_0 x).mp z, (b2i_0 y).mp w]; rfl⟩, fun w => ⟨_, rfl, rfl, by rw [(b2i_0 x).mp z, ts_nf (fun q => w ((b2i_0 y).mpr q))]; rfl⟩⟩⟩
  · have e : o = 2 := by omega
    subst e
    exact ⟨fun z => ⟨_, rfl, rfl, by rw [(b2i_0 x).mp z]; rfl⟩, fun z => ⟨fun w => ⟨_, rfl, rfl, by rw [ts_nf (fun q => z ((b2i_0 x).mpr q)), ts_nf (fun q => w ((b2i_0 y).mpr q))]; rfl⟩, fun w => ⟨_, rfl, rfl, by rw [ts_nf (fun q => z ((b2i_0 x).mpr q)), (b2i_0 y).mp w]; rfl⟩⟩⟩
  · have e : o = 3 := by omega
    subst e
    exact ⟨fun z => ⟨_, rfl, rfl, by rw [(b2i_0 x).mp z]; rfl⟩, fun z => ⟨fun w => ⟨_, rfl, rfl, by rw [(b2i_0 y).mp w]; cases x <;> rfl⟩, fun w => ⟨_, rfl, rfl, by rw [ts_nf (fun q => z ((b2i_0 x).mpr q)), ts_nf (fun q => w ((b2i_0 y).mpr q))]; rfl⟩⟩⟩
  · have e : o = 13 := by omega
    subst e
    obtain ⟨e1, e2⟩ := h1 (Or.inr (Or.inr rfl))
    refine ⟨A0, f1, A1, 4096, A4, m, IXn (by omega) (by omega), fun q => ⟨_, rfl, rfl, ?_⟩, fun q => ⟨_, rfl, rfl, ?_⟩⟩
    · show _ = b2i (decide (0 < p1))
      rw [decide_eq_false ((le0_n e1 e2).mp q)]; rfl
    · show _ = b2i (decide (0 < p1))
      rw [decide_eq_true (show 0 < p1 from Decidable.byContradiction (fun w => q ((le0_n e1 e2).mpr w)))]; rfl
