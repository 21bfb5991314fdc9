/-! ROWS of Algebra: removeProducts, applyToOne, applyToTwo. -/
noncomputable def quoF (F G : Nat → Bool) (m : Nat) : Bool := bd (isQuo F G m)
def isRem (F G : Nat → Bool) (m : Nat) : Prop := F m = true ∧ ¬ isOp false (quoF F G) G m
theorem isOp_congr {b : Bool} {F F' G G' : Nat → Bool} {m : Nat} (h : ∀ x, x < 4096 → F x = F' x) (h2 : ∀ x, x < 4096 → G x = G' x) : isOp b F G m ↔ isOp b F' G' m := by
  constructor
  · rintro ⟨x, y, hx, hy, a, c, e⟩; exact ⟨x, y, hx, hy, by rw [← h x hx]; exact a, by rw [← h2 y hy]; exact c, e⟩
  · rintro ⟨x, y, hx, hy, a, c, e⟩; exact ⟨x, y, hx, hy, by rw [h x hx]; exact a, by rw [h2 y hy]; exact c, e⟩
theorem removeProducts_R {Γ : Gm} {d : Nat} {σ : AH} {al f1 f2 sp st row : Nat} {O : Nat → Int64} (A : AlgOK σ al f1 f2 sp st) (hr : hs σ row = some (23, 64)) (h1 : row ≠ sp) (hl : listed O (gi σ f1) 4096) (hd : 4 ≤ d) : RV Γ d MX0_removeProducts [.ref al, .ref row, .int (nI (rct O 4096))] σ (fun σ' => Chg (aI f1 f2) (aJ sp st row) σ σ' ∧ ∀ m, m < 4096 → (bs (gj σ' row) m = true ↔ (bs (gj σ row) m = true ∧ ¬ isOp false (bs (gj σ sp)) (bs O) m))) := by
  obtain ⟨A0, A1, A2, A3, A4, A5, A6, A7, A8, A9, A10⟩ := A
  generalize hR : gj σ row = R
  generalize hS : gj σ sp = S
  refine eX0_removeProducts ⟨A0, sp, A3, f2, A2, ?_⟩
  refine CI.of (d2 := 3) (list_R A7 A6 (by omega) (by omega) (by omega) (by omega)) (by omega) (fun r4 σ4 hw e4 => ?_)
  obtain ⟨rfl, u, e4, hu⟩ := e4
  rw [hS] at hu
  rw [hS]
  have C4 : Chg (aI f1 f2) (aJ sp st row) σ σ4 := by rw [e4]; exact Chg.rowI _ _ (Or.inr rfl)
  have i4 : gi σ4 f2 = u := by rw [e4, gi_row]
  have j4 : listed O (gi σ4 f1) 4096 := by rw [e4, gi_rown _ _ A9]; exact hl
  have r4 : gj σ4 row = R := by rw [e4]; exact hR
  have lS := rct_le S 4096
  have lO := rct_le O 4096
  have L : ∀ k, k ≤ rct S 4096 → ∀ τ, Chg (aI f1 f2) (aJ sp st row) σ τ → gi τ f2 = u → listed O (gi τ f1) 4096 → (∀ m, m < 4096 → (bs (gj τ row) m = true ↔ (bs R m = true ∧ ¬ ∃ x y, x < 4096 ∧ y < 4096 ∧ bs S x = true ∧ bs O y = true ∧ opn false x y = m ∧ rct S x < k))) → EV Γ MX0_removeProducts d 15 [some (.ref al), some (.ref row), some (.int (nI (rct O 4096))), some (.int (nI (rct S 4096))), some (.int (nI k)), none] [] τ (fun o σ' => o = .inl none ∧ Chg (aI f1 f2) (aJ sp st row) σ σ' ∧ ∀ m, m < 4096 → (bs (gj σ' row) m = true ↔ (bs R m = true ∧ ¬ isOp false (bs S) (bs O) m))) := by
    refine upto _ ?_ (fun k hk ih => ?_)
    · intro τ C h2 hl hb
      refine gX0_removeProducts_15 ⟨fun _ => ⟨rfl, C, fun m hm => ?_⟩, fun c => absurd ((nI_leI (by omega) (by omega)).mpr (Nat.le_refl _)) c⟩
      rw [hb m hm]
      refine and_congr_right (fun _ => not_congr ⟨?_, ?_⟩)
      · rintro ⟨x, y, hx, hy, a1, a2, a3, _⟩; exact ⟨x, y, hx, hy, a1, a2, a3⟩
      · rintro ⟨x, y, hx, hy, a1, a2, a3⟩; exact ⟨x, y, hx, hy, a1, a2, a3, rct_lt hx a1⟩
    · intro τ C h2 hl hb
      obtain ⟨x, hx, bx, rx, ux⟩ := lst_at hu hk
      refine gX0_removeProducts_15 ⟨fun c => absurd ((nI_leI (by omega) (by omega)).mp c) (by omega), fun _ => ⟨fun c => absurd ((c4096le (by omega)).mp c) (by omega), fun _ => ?_⟩⟩
      have J : ∀ i, i ≤ rct O 4096 → ∀ τ, Chg (aI f1 f2) (aJ sp st row) σ τ → gi τ f2 = u → listed O (gi τ f1) 4096 → (∀ m, m < 4096 → (bs (gj τ row) m = true ↔ (bs R m = true ∧ ¬ ∃ x y, x < 4096 ∧ y < 4096 ∧ bs S x = true ∧ bs O y = true ∧ opn false x y = m ∧ (rct S x < k ∨ (rct S x = k ∧ rct O y < i))))) → EV Γ MX0_removeProducts d 32 [some (.ref al), some (.ref row), some (.int (nI (rct O 4096))), some (.int (nI (rct S 4096))), some (.int (nI k)), some (.int (nI i))] [] τ (fun o σ' => o = .inl none ∧ Chg (aI f1 f2) (aJ sp st row) σ σ' ∧ ∀ m, m < 4096 → (bs (gj σ' row) m = true ↔ (bs R m = true ∧ ¬ isOp false (bs S) (bs O) m))) := by
        refine upto _ ?_ (fun i hi ih2 => ?_)
        · intro τ C h2 hl hb
          refine gX0_removeProducts_32 ⟨fun _ => ?_, fun c => absurd ((nI_leI (by omega) (by omega)).mpr (Nat.le_refl _)) c⟩
          rw [nI_1]
          refine ih τ C h2 hl (fun m hm => ?_)
          rw [hb m hm]
          refine and_congr_right (fun _ => not_congr ⟨?_, ?_⟩)
          · rintro ⟨x, y, hx, hy, a1, a2, a3, a4⟩; exact ⟨x, y, hx, hy, a1, a2, a3, by omega⟩
          · rintro ⟨x, y, hx, hy, a1, a2, a3, a4⟩
            have := rct_lt hy a2
            exact ⟨x, y, hx, hy, a1, a2, a3, by omega⟩
        · intro τ C h2 hl hb
          obtain ⟨y, hy, by1, ry, vy⟩ := lst_at hl hi
          refine gX0_removeProducts_32 ⟨fun c => absurd ((nI_leI (by omega) (by omega)).mp c) (by omega), fun _ => ⟨fun c => absurd ((c4096le (by omega)).mp c) (by omega), fun _ => ⟨C.gh A0, f2, C.gg A2, 4096, C.gh A6, k, IXn (by omega) (by omega), f1, C.gg A1, 4096, C.gh A5, i, IXn (by omega) (by omega), ?_⟩⟩⟩
          rw [h2, ux, vy, fa_or, nI_1]
          refine CV.of (d2 := 3) (remove_R (C.gh hr) (by omega) (or_lt hx hy)) (by omega) (fun τ1 hw e1 => ?_)
          refine ih2 τ1 (by rw [e1]; exact C.trans (Chg.rowJ _ _ (Or.inr (Or.inr rfl)))) (by rw [e1]; exact h2) (by rw [e1]; exact hl) (fun m hm => ?_)
          rw [e1, gj_row, bs_rrem, Bool.and_eq_true, hb m hm, Bool.not_eq_true', decide_eq_false_iff_not]
          constructor
          · rintro ⟨⟨q1, q2⟩, q3⟩
            refine ⟨q1, ?_⟩
            rintro ⟨x', y', hx', hy', a1, a2, a3, a4⟩
            by_cases q : rct S x' = k ∧ rct O y' = i
            · apply q3
              rw [← a3, rct_inj a1 bx (q.1.trans rx.symm), rct_inj a2 by1 (q.2.trans ry.symm)]; rfl
            · exact q2 ⟨x', y', hx', hy', a1, a2, a3, by omega⟩
          · rintro ⟨q1, q2⟩
            refine ⟨⟨q1, ?_⟩, fun q3 => q2 ⟨x, y, hx, hy, bx, by1, q3.symm, Or.inr ⟨rx, by omega⟩⟩⟩
            rintro ⟨x', y', hx', hy', a1, a2, a3, a4⟩
            exact q2 ⟨x', y', hx', hy', a1, a2, a3, by omega⟩
      refine J 0 (by omega) τ C h2 hl (fun m hm => ?_)
      rw [hb m hm]
      refine and_congr_right (fun _ => not_congr ⟨?_, ?_⟩)
      · rintro ⟨x, y, hx, hy, a1, a2, a3, a4⟩; exact ⟨x, y, hx, hy, a1, a2, a3, Or.inl a4⟩
      · rintro ⟨x, y, hx, hy, a1, a2, a3, a4⟩; exact ⟨x, y, hx, hy, a1, a2, a3, by omega⟩
  refine L 0 (by omega) σ4 C4 i4 j4 (fun m hm => ?_)
  rw [r4]
  exact ⟨fun z => ⟨z, fun ⟨x, y, _, _, _, _, _, w⟩ => absurd w (by omega)⟩, fun z => z.1⟩
def op1 (o : Nat) (F : Nat → Bool) (m : Nat) : Prop := if o = 4 then isMax F m else if o = 5 then isMin F m else if o = 6 then isHit F m else hasUp F m
def op2 (o : Nat) (F G : Nat → Bool) (m : Nat) : Prop :=
  if o = 1 then isOp true F G m else if o = 2 then (F m = true ∧ hasDn G m) else if o = 3 then (F m = true ∧ hasUp G m) else if o = 37 then isRem F G m else if o = 38 then (F m = true ∧ G m = true) else if o = 42 then isOp false F G m else if o = 43 then (F m = true ∨ G m = true) else if o = 45 then (F m = true ∧ G m = false) else isQuo F G m
def isB1 (o : Nat) : Prop := o = 4 ∨ o = 5 ∨ o = 6 ∨ o = 7
def isB2 (o : Nat) : Prop := o = 1 ∨ o = 2 ∨ o = 3 ∨ o = 37 ∨ o = 38 ∨ o = 42 ∨ o = 43 ∨ o = 45 ∨ o = 47
def isDiv (o : Nat) : Prop := o = 37 ∨ o = 47
theorem toI_n {o : Nat} (h : o < 2 ^ 31) : Int32.toInt (nI o) = (o : Int) := nI_toInt h
theorem applyToOne_R {Γ : Gm} {d : Nat} {σ : AH} {al f1 f2 sp st row o : Nat} (A : AlgOK σ al f1 f2 sp st) (hr : hs σ row = some (23, 64)) (h1 : row ≠ sp) (h2 : row ≠ st) (ho : isB1 o) (hd : 6 ≤ d) : RV Γ d MX0_applyToOne [.ref al, .int (nI o), .ref row] σ (fun σ' => Chg (aI f1 f2) (aJ sp st row) σ σ' ∧ ∀ m, m < 4096 → (bs (gj σ' row) m = true ↔ op1 o (bs (gj σ row)) m)) := by
  have ol : o < 2 ^ 31 := by rcases ho with h | h | h | h <;> omega
  refine eX0_applyToOne ?_
  rw [toI_n ol]
  refine ⟨fun c => ⟨A.1, ?_⟩, fun c => ⟨A.1, ?_⟩, fun c => ⟨A.1, ?_⟩, fun c => ?_, fun c => absurd c (by rcases ho with h | h | h | h <;> omega)⟩
  · have e : o = 4 := by omega
    refine CV.of (d2 := 5) (maximal_R A hr h1 h2 (by omega)) (by omega) (fun σ' _ h => ⟨rfl, h.1, fun m hm => ?_⟩)
    rw [h.2 m hm, e]; exact Iff.rfl
  · have e : o = 5 := by omega
    refine CV.of (d2 := 5) (minimal_R A hr h1 h2 (by omega)) (by omega) (fun σ' _ h => ⟨rfl, h.1, fun m hm => ?_⟩)
    rw [h.2 m hm, e]; exact Iff.rfl
  · have e : o = 6 := by omega
    refine CV.of (d2 := 5) (hit_R A hr h1 h2 (by omega)) (by omega) (fun σ' _ h => ⟨rfl, h.1, fun m hm => ?_⟩)
    rw [h.2 m hm, e]; exact Iff.rfl
  · have e : o = 7 := by omega
    refine CV.of (d2 := 5) (lower_R hr (by omega) (by omega)) (by omega) (fun σ' _ h => ?_)
    obtain ⟨f, h, hf⟩ := h
    refine ⟨rfl, by rw [h]; exact Chg.rowJ _ _ (Or.inr (Or.inr rfl)), fun m hm => ?_⟩
    rw [h, gj_row, hf m hm, e]; exact Iff.rfl
theorem applyToTwo_R {Γ : Gm} {d : Nat} {σ : AH} {al f1 f2 sp st row other n o : Nat} (A : AlgOK σ al f1 f2 sp st) (hr : hs σ row = some (23, 64)) (hx : hs σ other = some (23, n)) (hn : 64 ≤ n) (h1 : row ≠ sp) (h2 : row ≠ st) (h3 : other ≠ row) (h4 : other ≠ sp) (ho : isB2 o) (hq : isDiv o → ∃ y, y < 4096 ∧ bs (gj σ other) y = true) (hd : 8 ≤ d) : RV Γ d MX0_applyToTwo [.ref al, .int (nI o), .ref row, .ref other] σ (fun σ' => Chg (aI f1 f2) (aJ sp st row) σ σ' ∧ ∀ m, m < 4096 → (bs (gj σ' row) m = true ↔ op2 o (bs (gj σ row)) (bs (gj σ other)) m)) := by
  have ol : o < 2 ^ 31 := by rcases ho with h | h | h | h | h | h | h | h | h <;> omega
  have A' := A
  obtain ⟨A0, A1, A2, A3, A4, A5, A6, A7, A8, A9, A10⟩ := A'
  refine eX0_applyToTwo ?_
  rw [toI_n ol]
  refine ⟨fun c => ⟨A0, ?_⟩, fun c => ⟨A0, sp, A3, ?_⟩, fun c => ⟨A0, sp, A3, ?_⟩, fun c => ⟨A0, ?_⟩, fun c => ?_, fun c => ⟨A0, ?_⟩, fun c => ?_, fun c => ?_, fun c => ⟨A0, ?_⟩, fun c => absurd c (by rcases ho with h | h | h | h | h | h | h | h | h <;> omega)⟩
  · have e : o = 1 := by omega
    refine CV.of (d2 := 6) (pair_R true A hr hx hn h3 (by omega)) (by omega) (fun σ' _ h => ⟨rfl, h.1, fun m hm => ?_⟩)
    rw [h.2 m hm, e]; exact Iff.rfl
  · have e : o = 2 := by omega
    refine CV.of (d2 := 6) (copy_R hx A7 hn (by omega) (by omega)) (by omega) (fun σ1 hw e1 => ?_)
    have C1 : Chg (aI f1 f2) (aJ sp st row) σ σ1 := by rw [e1]; exact Chg.rowJ _ _ (Or.inl rfl)
    refine ⟨C1.gh A0, sp, C1.gg A3, ?_⟩
    refine CV.of (d2 := 6) (raise_R (C1.gh A7) (by omega) (by omega)) (by omega) (fun σ2 hw e2 => ?_)
    obtain ⟨f, e2, hf⟩ := e2
    have C2 : Chg (aI f1 f2) (aJ sp st row) σ σ2 := by rw [e2]; exact C1.trans (Chg.rowJ _ _ (Or.inl rfl))
    refine ⟨C2.gh A0, sp, C2.gg A3, ?_⟩
    refine CV.of (d2 := 6) (keepAll_R (C2.gh hr) (C2.gh A7) (by omega) (by omega) (Ne.symm h1)) (by omega) (fun σ3 hw e3 => ?_)
    obtain ⟨g, e3, hg⟩ := e3
    refine ⟨rfl, by rw [e3]; exact C2.trans (Chg.rowJ _ _ (Or.inr (Or.inr rfl))), fun m hm => ?_⟩
    rw [e3, gj_row, hg m hm, Bool.and_eq_true, e2, gj_row, hf m hm, gj_rown _ _ h1, e1, gj_row, gj_rown _ _ h1, e]
    exact and_congr_right (fun _ => hasDn_congr (fun x hx => bs_fl hx))
  · have e : o = 3 := by omega
    refine CV.of (d2 := 6) (copy_R hx A7 hn (by omega) (by omega)) (by omega) (fun σ1 hw e1 => ?_)
    have C1 : Chg (aI f1 f2) (aJ sp st row) σ σ1 := by rw [e1]; exact Chg.rowJ _ _ (Or.inl rfl)
    refine ⟨C1.gh A0, sp, C1.gg A3, ?_⟩
    refine CV.of (d2 := 6) (lower_R (C1.gh A7) (by omega) (by omega)) (by omega) (fun σ2 hw e2 => ?_)
    obtain ⟨f, e2, hf⟩ := e2
    have C2 : Chg (aI f1 f2) (aJ sp st row) σ σ2 := by rw [e2]; exact C1.trans (Chg.rowJ _ _ (Or.inl rfl))
    refine ⟨C2.gh A0, sp, C2.gg A3, ?_⟩
    refine CV.of (d2 := 6) (keepAll_R (C2.gh hr) (C2.gh A7) (by omega) (by omega) (Ne.symm h1)) (by omega) (fun σ3 hw e3 => ?_)
    obtain ⟨g, e3, hg⟩ := e3
    refine ⟨rfl, by rw [e3]; exact C2.trans (Chg.rowJ _ _ (Or.inr (Or.inr rfl))), fun m hm => ?_⟩
    rw [e3, gj_row, hg m hm, Bool.and_eq_true, e2, gj_row, hf m hm, gj_rown _ _ h1, e1, gj_row, gj_rown _ _ h1, e]
    exact and_congr_right (fun _ => hasUp_congr (fun x hx => bs_fl hx))
  · have e : o = 37 := by omega
    refine CI.of (d2 := 6) (divide_R A hr hx hn h1 (by omega) (hq (Or.inl e))) (by omega) (fun r σ1 hw e1 => ?_)
    obtain ⟨rfl, C1, g1, l1, q1⟩ := e1
    refine ⟨C1.gh A0, ?_⟩
    refine CV.of (d2 := 6) (removeProducts_R (A.chg C1) (C1.gh hr) h1 l1 (by omega)) (by omega) (fun σ2 hw e2 => ?_)
    refine ⟨rfl, C1.trans e2.1, fun m hm => ?_⟩
    rw [e2.2 m hm, g1, e]
    refine and_congr_right (fun _ => not_congr (isOp_congr (fun x hx => ?_) (fun _ _ => rfl)))
    have := q1 x hx
    unfold quoF
    by_cases c : isQuo (bs (gj σ row)) (bs (gj σ other)) x
    · rw [this.mpr c, bd_true.mpr c]
    · rw [ts_nt (fun z => c (this.mp z)), bd_false.mpr c]
  · have e : o = 38 := by omega
    refine CV.of (d2 := 6) (keepAll_R hr hx (by omega) hn h3) (by omega) (fun σ3 hw e3 => ?_)
    obtain ⟨g, e3, hg⟩ := e3
    refine ⟨rfl, by rw [e3]; exact Chg.rowJ _ _ (Or.inr (Or.inr rfl)), fun m hm => ?_⟩
    rw [e3, gj_row, hg m hm, Bool.and_eq_true, e]; exact Iff.rfl
  · have e : o = 42 := by omega
    refine CV.of (d2 := 6) (pair_R false A hr hx hn h3 (by omega)) (by omega) (fun σ' _ h => ⟨rfl, h.1, fun m hm => ?_⟩)
    rw [h.2 m hm, e]; exact Iff.rfl
  · have e : o = 43 := by omega
    refine CV.of (d2 := 6) (addAll_R hr hx (by omega) hn h3) (by omega) (fun σ3 hw e3 => ?_)
    obtain ⟨g, e3, hg⟩ := e3
    refine ⟨rfl, by rw [e3]; exact Chg.rowJ _ _ (Or.inr (Or.inr rfl)), fun m hm => ?_⟩
    rw [e3, gj_row, hg m hm, Bool.or_eq_true, e]; exact Iff.rfl
  · have e : o = 45 := by omega
    refine CV.of (d2 := 6) (removeAll_R hr hx (by omega) hn h3) (by omega) (fun σ3 hw e3 => ?_)
    obtain ⟨g, e3, hg⟩ := e3
    refine ⟨rfl, by rw [e3]; exact Chg.rowJ _ _ (Or.inr (Or.inr rfl)), fun m hm => ?_⟩
    rw [e3, gj_row, hg m hm, Bool.and_eq_true, Bool.not_eq_true', e]; exact Iff.rfl
  · have e : o = 47 := by omega
    refine CI.of (d2 := 6) (divide_R A hr hx hn h1 (by omega) (hq (Or.inr e))) (by omega) (fun r σ1 hw e1 => ?_)
    obtain ⟨rfl, C1, g1, l1, q1⟩ := e1
    refine ⟨C1.gh A0, sp, C1.gg A3, ?_⟩
    refine CV.of (d2 := 6) (copy_R (C1.gh A7) (C1.gh hr) (by omega) (by omega) (by omega)) (by omega) (fun σ2 hw e2 => ?_)
    refine ⟨rfl, by rw [e2]; exact C1.trans (Chg.rowJ _ _ (Or.inr (Or.inr rfl))), fun m hm => ?_⟩
    rw [e2, gj_row, bs_fl hm, q1 m hm, e]; exact Iff.rfl

