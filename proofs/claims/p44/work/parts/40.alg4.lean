/-! ROWS of Algebra: pair, divide, removeProducts, applyToOne, applyToTwo. -/
theorem lst_at {r : Nat → Int64} {f : Nat → Int32} (h : listed r f 4096) {i : Nat} (hi : i < rct r 4096) : ∃ x, x < 4096 ∧ bs r x = true ∧ rct r x = i ∧ f i = nI x := by
  obtain ⟨x, h1, h2, h3⟩ := fb_ct_kth hi
  have h3' : rct r x = i := h3
  exact ⟨x, h1, h2, h3', by rw [← h3']; exact h x h1 h2⟩
theorem rct_lt {r : Nat → Int64} {x n : Nat} (hx : x < n) (h : bs r x = true) : rct r x < rct r n := by
  have h1 := rct_mono r (show x + 1 ≤ n by omega)
  rw [rct_succ, h, if_pos rfl] at h1
  omega
theorem rct_inj {r : Nat → Int64} {x y : Nat} (h : bs r x = true) (h2 : bs r y = true) (e : rct r x = rct r y) : x = y := fb_ct_kth_one h h2 e
theorem opn_nI (b : Bool) (x y : Nat) : (if b then nI x &&& nI y else nI x ||| nI y) = nI (opn b x y) := by
  cases b
  · exact fa_or x y
  · exact fa_and x y
theorem pair_R {Γ : Gm} {d : Nat} {σ : AH} {al f1 f2 sp st row other n : Nat} (b : Bool) (A : AlgOK σ al f1 f2 sp st) (hr : hs σ row = some (23, 64)) (ho : hs σ other = some (23, n)) (hn : 64 ≤ n) (hne : other ≠ row) (hd : 6 ≤ d) : RV Γ d MX0_pair [.ref al, .ref row, .ref other, .int (b2i b)] σ (fun σ' => Chg (aI f1 f2) (aJ sp st row) σ σ' ∧ ∀ m, m < 4096 → (bs (gj σ' row) m = true ↔ isOp b (bs (gj σ row)) (bs (gj σ other)) m)) := by
  have A' := A
  obtain ⟨A0, A1, A2, A3, A4, A5, A6, A7, A8, A9, A10⟩ := A'
  generalize hR : gj σ row = R
  generalize hO : gj σ other = O
  refine eX0_pair ⟨A0, f1, A1, ?_⟩
  refine CI.of (d2 := 5) (list_R hr A5 (by omega) (by omega) (by omega) (by omega)) (by omega) (fun r4 σ4 hw e4 => ?_)
  obtain ⟨rfl, u, e4, hu⟩ := e4
  have C4 : Chg (aI f1 f2) (aJ sp st row) σ σ4 := by rw [e4]; exact Chg.rowI _ _ (Or.inl rfl)
  refine ⟨C4.gh A0, f2, C4.gg A2, ?_⟩
  refine CI.of (d2 := 5) (list_R (C4.gh ho) (C4.gh A6) hn (by omega) (by omega) (by omega)) (by omega) (fun r9 σ9 hw e9 => ?_)
  obtain ⟨rfl, v, e9, hv⟩ := e9
  have C9 : Chg (aI f1 f2) (aJ sp st row) σ σ9 := by rw [e9]; exact C4.trans (Chg.rowI _ _ (Or.inr rfl))
  have g4 : gj σ4 other = O := by rw [e4]; exact hO
  rw [g4] at hv
  rw [hR] at hu
  have i1 : gi σ9 f1 = u := by rw [e9, gi_rown _ _ A9, e4, gi_row]
  have i2 : gi σ9 f2 = v := by rw [e9, gi_row]
  have r9 : gj σ9 row = R := by rw [e9, e4]; exact hR
  have o9 : gj σ9 other = O := by rw [e9]; exact g4
  rw [g4, hR]
  have lR := rct_le R 4096
  have lO := rct_le O 4096
  refine ⟨fun _ => ?_, fun _ => ⟨C9.gh A0, ?_⟩⟩
  · refine CV.of (d2 := 5) (fill_R 0 (C9.gh hr) (by omega)) (by omega) (fun σ12 hw e12 => ?_)
    have C12 : Chg (aI f1 f2) (aJ sp st row) σ σ12 := by rw [e12]; exact C9.trans (Chg.rowJ _ _ (Or.inr (Or.inr rfl)))
    have L : ∀ i, i ≤ rct R 4096 → ∀ τ, Chg (aI f1 f2) (aJ sp st row) σ τ → gi τ f1 = u → gi τ f2 = v → (∀ m, m < 4096 → (bs (gj τ row) m = true ↔ ∃ x y, x < 4096 ∧ y < 4096 ∧ bs R x = true ∧ bs O y = true ∧ opn b x y = m ∧ rct R x < i)) → EV Γ MX0_pair d 46 [some (.ref al), some (.ref row), none, some (.int (b2i b)), some (.int (nI (rct R 4096))), some (.int (nI (rct O 4096))), some (.int (nI i)), none] [] τ (fun o σ' => o = .inl none ∧ Chg (aI f1 f2) (aJ sp st row) σ σ' ∧ ∀ m, m < 4096 → (bs (gj σ' row) m = true ↔ isOp b (bs R) (bs O) m)) := by
      refine upto _ ?_ (fun i hi ih => ?_)
      · intro τ C h1 h2 hb
        refine gX0_pair_46 ⟨fun _ => ⟨rfl, C, fun m hm => ?_⟩, fun c => absurd ((nI_leI (by omega) (by omega)).mpr (Nat.le_refl _)) c⟩
        rw [hb m hm]
        constructor
        · rintro ⟨x, y, hx, hy, a1, a2, a3, _⟩; exact ⟨x, y, hx, hy, a1, a2, a3⟩
        · rintro ⟨x, y, hx, hy, a1, a2, a3⟩; exact ⟨x, y, hx, hy, a1, a2, a3, rct_lt hx a1⟩
      · intro τ C h1 h2 hb
        obtain ⟨x, hx, bx, rx, ux⟩ := lst_at hu hi
        refine gX0_pair_46 ⟨fun c => absurd ((nI_leI (by omega) (by omega)).mp c) (by omega), fun _ => ⟨fun c => absurd ((c4096le (by omega)).mp c) (by omega), fun _ => ?_⟩⟩
        have J : ∀ k, k ≤ rct O 4096 → ∀ τ, Chg (aI f1 f2) (aJ sp st row) σ τ → gi τ f1 = u → gi τ f2 = v → (∀ m, m < 4096 → (bs (gj τ row) m = true ↔ ∃ x y, x < 4096 ∧ y < 4096 ∧ bs R x = true ∧ bs O y = true ∧ opn b x y = m ∧ (rct R x < i ∨ (rct R x = i ∧ rct O y < k)))) → EV Γ MX0_pair d 64 [some (.ref al), some (.ref row), none, some (.int (b2i b)), some (.int (nI (rct R 4096))), some (.int (nI (rct O 4096))), some (.int (nI i)), some (.int (nI k))] [] τ (fun o σ' => o = .inl none ∧ Chg (aI f1 f2) (aJ sp st row) σ σ' ∧ ∀ m, m < 4096 → (bs (gj σ' row) m = true ↔ isOp b (bs R) (bs O) m)) := by
          refine upto _ ?_ (fun k hk ih2 => ?_)
          · intro τ C h1 h2 hb
            refine gX0_pair_64 ⟨fun _ => ?_, fun c => absurd ((nI_leI (by omega) (by omega)).mpr (Nat.le_refl _)) c⟩
            rw [nI_1]
            refine ih τ C h1 h2 (fun m hm => ?_)
            rw [hb m hm]
            constructor
            · rintro ⟨x, y, hx, hy, a1, a2, a3, a4⟩; exact ⟨x, y, hx, hy, a1, a2, a3, by omega⟩
            · rintro ⟨x, y, hx, hy, a1, a2, a3, a4⟩
              have := rct_lt hy a2
              exact ⟨x, y, hx, hy, a1, a2, a3, by omega⟩
          · intro τ C h1 h2 hb
            obtain ⟨y, hy, by1, ry, vy⟩ := lst_at hv hk
            have P : EV Γ MX0_pair d 117 [some (.ref al), some (.ref row), none, some (.int (b2i b)), some (.int (nI (rct R 4096))), some (.int (nI (rct O 4096))), some (.int (nI i)), some (.int (nI k))] [.int (nI (opn b x y)), .ref row] τ (fun o σ' => o = .inl none ∧ Chg (aI f1 f2) (aJ sp st row) σ σ' ∧ ∀ m, m < 4096 → (bs (gj σ' row) m = true ↔ isOp b (bs R) (bs O) m)) := by
              refine gX0_pair_117 ?_
              refine CV.of (d2 := 5) (put_R (C.gh hr) (by omega) (opn_lt hx hy)) (by omega) (fun τ1 hw e1 => ?_)
              rw [nI_1]
              refine ih2 τ1 (by rw [e1]; exact C.trans (Chg.rowJ _ _ (Or.inr (Or.inr rfl)))) (by rw [e1]; exact h1) (by rw [e1]; exact h2) (fun m hm => ?_)
              rw [e1, gj_row, bs_rput, Bool.or_eq_true, hb m hm, decide_eq_true_iff]
              constructor
              · rintro (⟨x, y, hx, hy, a1, a2, a3, a4⟩ | w)
                · exact ⟨x, y, hx, hy, a1, a2, a3, by omega⟩
                · exact ⟨x, y, hx, hy, bx, by1, w.symm, Or.inr ⟨rx, by omega⟩⟩
              · rintro ⟨x', y', hx', hy', a1, a2, a3, a4⟩
                by_cases q : rct R x' = i ∧ rct O y' = k
                · right
                  rw [← a3, rct_inj a1 bx (q.1.trans rx.symm), rct_inj a2 by1 (q.2.trans ry.symm)]
                · left; exact ⟨x', y', hx', hy', a1, a2, a3, by omega⟩
            refine gX0_pair_64 ⟨fun c => absurd ((nI_leI (by omega) (by omega)).mp c) (by omega), fun _ => ⟨fun c => absurd ((c4096le (by omega)).mp c) (by omega), fun _ => ?_⟩⟩
            have ey := opn_nI b x y
            refine ⟨fun c => ⟨C.gh A0, f1, C.gg A1, 4096, C.gh A5, i, IXn (by omega) (by omega), f2, C.gg A2, 4096, C.gh A6, k, IXn (by omega) (by omega), ?_⟩, fun c => ⟨C.gh A0, f1, C.gg A1, 4096, C.gh A5, i, IXn (by omega) (by omega), f2, C.gg A2, 4096, C.gh A6, k, IXn (by omega) (by omega), ?_⟩⟩
            · rw [h1, h2, ux, vy]
              have bf : b = false := by cases b; rfl; exact absurd c (by decide)
              rw [bf, if_neg (by decide)] at ey
              rw [ey, show opn false x y = opn b x y by rw [bf]]; exact P
            · rw [h1, h2, ux, vy]
              have bf : b = true := by cases b; exact absurd rfl c; rfl
              rw [bf, if_pos rfl] at ey
              rw [ey, show opn true x y = opn b x y by rw [bf]]; exact P
        refine J 0 (by omega) τ C h1 h2 (fun m hm => ?_)
        rw [hb m hm]
        constructor
        · rintro ⟨x, y, hx, hy, a1, a2, a3, a4⟩; exact ⟨x, y, hx, hy, a1, a2, a3, Or.inl a4⟩
        · rintro ⟨x, y, hx, hy, a1, a2, a3, a4⟩; exact ⟨x, y, hx, hy, a1, a2, a3, by omega⟩
    refine L 0 (by omega) σ12 C12 (by rw [e12]; exact i1) (by rw [e12]; exact i2) (fun m hm => ?_)
    rw [e12, gj_row, fill0_bs _ hm]
    exact ⟨fun z => absurd z (by decide), fun ⟨x, y, _, _, _, _, _, z⟩ => absurd z (by omega)⟩
  · refine CV.of (d2 := 5) (countPairs_R b (A.chg C9) (C9.gh hr) (C9.gh ho) hn (by omega)) (by omega) (fun σ14 hw e14 => ?_)
    refine ⟨rfl, C9.trans e14.1, fun m hm => ?_⟩
    rw [e14.2 m hm, r9, o9]
def isQuo (F G : Nat → Bool) (m : Nat) : Prop := ∀ y, y < 4096 → G y = true → m &&& y = 0 ∧ F (m ||| y) = true
theorem hasAll_R {Γ : Gm} {d : Nat} {σ : AH} {al f1 row m n : Nat} {O : Nat → Int64} (A0 : hs σ al = some (0, 4)) (A1 : gr σ al 0 = some f1) (A5 : hs σ f1 = some (22, 4096)) (hr : hs σ row = some (23, n)) (hn : 64 ≤ n) (hl : listed O (gi σ f1) 4096) (hm : m < 4096) (hd : 1 ≤ d) : RI Γ d MX0_hasAllWith [.ref al, .ref row, .int (nI m), .int (nI (rct O 4096))] σ (fun r σ' => σ' = σ ∧ ((r = 1 ∧ ∀ y, y < 4096 → bs O y = true → bs (gj σ row) (m ||| y) = true) ∨ (r = 0 ∧ ¬ ∀ y, y < 4096 → bs O y = true → bs (gj σ row) (m ||| y) = true))) := by
  have lO := rct_le O 4096
  refine eX0_hasAllWith ?_
  have L : ∀ i, i ≤ rct O 4096 → (∀ y, y < 4096 → bs O y = true → rct O y < i → bs (gj σ row) (m ||| y) = true) → EV Γ MX0_hasAllWith d 3 [some (.ref al), some (.ref row), some (.int (nI m)), some (.int (nI (rct O 4096))), some (.int (nI i))] [] σ (fun o σ' => ∃ r : Int32, o = .inl (some (.int r)) ∧ σ' = σ ∧ ((r = 1 ∧ ∀ y, y < 4096 → bs O y = true → bs (gj σ row) (m ||| y) = true) ∨ (r = 0 ∧ ¬ ∀ y, y < 4096 → bs O y = true → bs (gj σ row) (m ||| y) = true))) := by
    refine upto _ ?_ (fun i hi ih => ?_)
    · intro h
      exact gX0_hasAllWith_3 ⟨fun _ => ⟨_, rfl, rfl, Or.inl ⟨rfl, fun y hy hb => h y hy hb (rct_lt hy hb)⟩⟩, fun c => absurd ((nI_leI (by omega) (by omega)).mpr (Nat.le_refl _)) c⟩
    · intro h
      obtain ⟨y, hy, by1, ry, vy⟩ := lst_at hl hi
      refine gX0_hasAllWith_3 ⟨fun c => absurd ((nI_leI (by omega) (by omega)).mp c) (by omega), fun _ => ⟨fun c => absurd ((c4096le (by omega)).mp c) (by omega), fun _ => ⟨A0, f1, A1, 4096, A5, i, IXn (by omega) (by omega), ?_⟩⟩⟩
      rw [vy, fa_or]
      refine CI.of (d2 := 0) (has_R hr hn (or_lt hm hy)) (by omega) (fun r σ1 hw e1 => ?_)
      obtain ⟨rfl, rfl⟩ := e1
      refine ⟨fun c => ?_, fun c => ⟨_, rfl, rfl, Or.inr ⟨rfl, fun z => ?_⟩⟩⟩
      · rw [nI_1]
        refine ih (fun y' hy' hb' hr' => ?_)
        rcases Nat.lt_or_ge (rct O y') i with q | q
        · exact h y' hy' hb' q
        · rw [rct_inj hb' by1 (by omega)]
          refine ts_nf (fun z => c ?_)
          rw [z]; rfl
      · rw [z y hy by1] at c; exact absurd c (by decide)
  exact L 0 (by omega) (fun y _ _ h => absurd h (by omega))
theorem divide_R {Γ : Gm} {d : Nat} {σ : AH} {al f1 f2 sp st row other n : Nat} (A : AlgOK σ al f1 f2 sp st) (hr : hs σ row = some (23, 64)) (ho : hs σ other = some (23, n)) (hn : 64 ≤ n) (h1 : row ≠ sp) (hd : 4 ≤ d) (hG : ∃ y, y < 4096 ∧ bs (gj σ other) y = true) : RI Γ d MX0_divide [.ref al, .ref row, .ref other] σ (fun r σ' => r = nI (rct (gj σ other) 4096) ∧ Chg (aI f1 f2) (aJ sp st row) σ σ' ∧ gj σ' row = gj σ row ∧ listed (gj σ other) (gi σ' f1) 4096 ∧ ∀ m, m < 4096 → (bs (gj σ' sp) m = true ↔ isQuo (bs (gj σ row)) (bs (gj σ other)) m)) := by
  have A' := A
  obtain ⟨A0, A1, A2, A3, A4, A5, A6, A7, A8, A9, A10⟩ := A'
  generalize hR : gj σ row = R
  generalize hO : gj σ other = O
  rw [hO] at hG
  refine eX0_divide ⟨A0, f1, A1, ?_⟩
  refine CI.of (d2 := 3) (list_R ho A5 hn (by omega) (by omega) (by omega)) (by omega) (fun r4 σ4 hw e4 => ?_)
  obtain ⟨rfl, u, e4, hu⟩ := e4
  rw [hO] at hu
  rw [hO]
  have C4 : Chg (aI f1 f2) (aJ sp st row) σ σ4 := by rw [e4]; exact Chg.rowI _ _ (Or.inl rfl)
  have i4 : gi σ4 f1 = u := by rw [e4, gi_row]
  have r4 : gj σ4 row = R := by rw [e4]; exact hR
  have lO := rct_le O 4096
  have fin : ∀ U, U < 4096 → (∀ i, U.testBit i = true ↔ ∃ y, y < 4096 ∧ bs O y = true ∧ y.testBit i = true) → EV Γ MX0_divide d 47 [some (.ref al), some (.ref row), none, some (.int (nI (rct O 4096))), some (.int (nI U)), none, none] [] σ4 (fun o σ' => ∃ r : Int32, o = .inl (some (.int r)) ∧ r = nI (rct O 4096) ∧ Chg (aI f1 f2) (aJ sp st row) σ σ' ∧ gj σ' row = R ∧ listed O (gi σ' f1) 4096 ∧ ∀ m, m < 4096 → (bs (gj σ' sp) m = true ↔ isQuo (bs R) (bs O) m)) := by
    intro U hU hUb
    have um : ∀ m, m < 4096 → (nI m &&& nI U = 0 ↔ ∀ y, y < 4096 → bs O y = true → m &&& y = 0) := by
      intro m hm
      have h2 : m &&& U < 4096 := and_lt hm
      rw [fa_and, show (0 : Int32) = nI 0 from rfl, nI_eq (by omega) (by omega)]
      constructor
      · intro h y hy hb
        apply Nat.eq_of_testBit_eq
        intro i
        rw [Nat.testBit_and, Nat.zero_testBit]
        have := congrArg (fun z => z.testBit i) h
        rw [Nat.testBit_and, Nat.zero_testBit] at this
        cases a : m.testBit i
        · rfl
        · cases c : y.testBit i
          · rfl
          · rw [a, (hUb i).mpr ⟨y, hy, hb, c⟩] at this; exact this
      · intro h
        apply Nat.eq_of_testBit_eq
        intro i
        rw [Nat.testBit_and, Nat.zero_testBit]
        cases a : m.testBit i
        · rfl
        · cases c : U.testBit i
          · rfl
          · obtain ⟨y, hy, hb, q⟩ := (hUb i).mp c
            have := congrArg (fun z => z.testBit i) (h y hy hb)
            rw [Nat.testBit_and, Nat.zero_testBit, a, q] at this; exact this
    refine gX0_divide_47 ?_
    refine CI.of (d2 := 3) (span_R (C4.gh hr) (by omega) (by omega)) (by omega) (fun r2 σ1 hw e1 => ?_)
    obtain ⟨rfl, k, hk, rfl, hs⟩ := e1
    rw [r4] at hs
    have hp : 2 ^ k ≤ 2 ^ 12 := Nat.pow_le_pow_right (by decide) hk
    refine ⟨C4.gh A0, sp, C4.gg A3, ?_⟩
    refine CV.of (d2 := 3) (fill_R 0 (C4.gh A7) (by omega)) (by omega) (fun σ6 hw e6 => ?_)
    have C6 : Chg (aI f1 f2) (aJ sp st row) σ σ6 := by rw [e6]; exact C4.trans (Chg.rowJ _ _ (Or.inl rfl))
    have L : ∀ m, m ≤ 2 ^ k → ∀ τ, Chg (aI f1 f2) (aJ sp st row) σ τ → gi τ f1 = u → gj τ row = R → (∀ x, x < 4096 → (bs (gj τ sp) x = true ↔ (x < m ∧ isQuo (bs R) (bs O) x))) → EV Γ MX0_divide d 64 [some (.ref al), some (.ref row), none, some (.int (nI (rct O 4096))), some (.int (nI U)), some (.int (nI (2 ^ k))), some (.int (nI m))] [] τ (fun o σ' => ∃ r : Int32, o = .inl (some (.int r)) ∧ r = nI (rct O 4096) ∧ Chg (aI f1 f2) (aJ sp st row) σ σ' ∧ gj σ' row = R ∧ listed O (gi σ' f1) 4096 ∧ ∀ m, m < 4096 → (bs (gj σ' sp) m = true ↔ isQuo (bs R) (bs O) m)) := by
      refine upto _ ?_ (fun m hm ih => ?_)
      · intro τ C hi hj hb
        refine gX0_divide_64 ⟨fun _ => ⟨_, rfl, rfl, C, hj, by rw [hi]; exact hu, fun x hx => ?_⟩, fun c => absurd ((nI_leI (by omega) (by omega)).mpr (Nat.le_refl _)) c⟩
        rw [hb x hx]
        refine ⟨fun z => z.2, fun z => ⟨?_, z⟩⟩
        obtain ⟨y, hy, hyb⟩ := hG
        have := hs _ (or_lt hx hy) (z y hy hyb).2
        exact Nat.lt_of_le_of_lt Nat.left_le_or this
      · intro τ C hi hj hb
        have nxt : ∀ τ, Chg (aI f1 f2) (aJ sp st row) σ τ → gi τ f1 = u → gj τ row = R → (∀ x, x < 4096 → (bs (gj τ sp) x = true ↔ (x < m ∧ isQuo (bs R) (bs O) x))) → ¬ isQuo (bs R) (bs O) m → EV Γ MX0_divide d 64 [some (.ref al), some (.ref row), none, some (.int (nI (rct O 4096))), some (.int (nI U)), some (.int (nI (2 ^ k))), some (.int (nI m + 1))] [] τ (fun o σ' => ∃ r : Int32, o = .inl (some (.int r)) ∧ r = nI (rct O 4096) ∧ Chg (aI f1 f2) (aJ sp st row) σ σ' ∧ gj σ' row = R ∧ listed O (gi σ' f1) 4096 ∧ ∀ m, m < 4096 → (bs (gj σ' sp) m = true ↔ isQuo (bs R) (bs O) m)) := by
          intro τ C hi hj hb hq
          rw [nI_1]
          refine ih τ C hi hj (fun x hx => ?_)
          rw [hb x hx]
          refine ⟨fun z => ⟨by omega, z.2⟩, fun z => ⟨?_, z.2⟩⟩
          by_cases q : x = m
          · rw [q] at z; exact absurd z.2 hq
          · omega
        refine gX0_divide_64 ⟨fun c => absurd ((nI_leI (by omega) (by omega)).mp c) (by omega), fun _ => ⟨fun c => absurd ((c4096le (by omega)).mp c) (by omega), fun _ => ⟨fun c => ?_, fun c => ⟨C.gh A0, ?_⟩⟩⟩⟩
        · exact nxt τ C hi hj hb (fun z => c ((um m (by omega)).mpr (fun y hy hb => (z y hy hb).1)))
        · have un := (um m (by omega)).mp c
          refine CI.of (d2 := 3) (hasAll_R (O := O) (C.gh A0) (C.gg A1) (C.gh A5) (C.gh hr) (by omega) (by rw [hi]; exact hu) (by omega) (by omega)) (by omega) (fun r σ4' hw e => ?_)
          obtain ⟨rfl, e⟩ := e
          rw [hj] at e
          refine ⟨fun c2 => ?_, fun c2 => ⟨C.gh A0, sp, C.gg A3, ?_⟩⟩
          · rcases e with ⟨e, _⟩ | ⟨_, e⟩
            · rw [e] at c2; exact absurd c2 (by decide)
            · exact nxt _ C hi hj hb (fun z => e (fun y hy hb => (z y hy hb).2))
          · rcases e with ⟨_, e⟩ | ⟨e, _⟩
            · refine CV.of (d2 := 3) (put_R (C.gh A7) (by omega) (by omega)) (by omega) (fun τ1 hw e1 => ?_)
              rw [nI_1]
              refine ih τ1 (by rw [e1]; exact C.trans (Chg.rowJ _ _ (Or.inl rfl))) (by rw [e1]; exact hi) (by rw [e1, gj_rown _ _ h1]; exact hj) (fun x hx => ?_)
              rw [e1, gj_row, bs_rput, Bool.or_eq_true, hb x hx, decide_eq_true_iff]
              constructor
              · rintro (z | z)
                · exact ⟨by omega, z.2⟩
                · rw [z]; exact ⟨by omega, fun y hy hb => ⟨un y hy hb, e y hy hb⟩⟩
              · rintro ⟨z, z2⟩
                by_cases q : x = m
                · exact Or.inr q
                · exact Or.inl ⟨by omega, z2⟩
            · exact absurd e c2
    exact L 0 (Nat.zero_le _) σ6 C6 (by rw [e6]; exact i4) (by rw [e6, gj_rown _ _ h1]; exact r4) (fun x hx => by rw [e6, gj_row, fill0_bs _ hx]; exact ⟨fun z => absurd z (by decide), fun z => absurd z.1 (by omega)⟩)
  have L : ∀ i, i ≤ rct O 4096 → ∀ U, U < 4096 → (∀ j, U.testBit j = true ↔ ∃ y, y < 4096 ∧ bs O y = true ∧ rct O y < i ∧ y.testBit j = true) → EV Γ MX0_divide d 15 [some (.ref al), some (.ref row), none, some (.int (nI (rct O 4096))), some (.int (nI U)), some (.int (nI i)), none] [] σ4 (fun o σ' => ∃ r : Int32, o = .inl (some (.int r)) ∧ r = nI (rct O 4096) ∧ Chg (aI f1 f2) (aJ sp st row) σ σ' ∧ gj σ' row = R ∧ listed O (gi σ' f1) 4096 ∧ ∀ m, m < 4096 → (bs (gj σ' sp) m = true ↔ isQuo (bs R) (bs O) m)) := by
    refine upto _ ?_ (fun i hi ih => ?_)
    · intro U hU hb
      refine gX0_divide_15 ⟨fun _ => fin U hU (fun j => ?_), fun c => absurd ((nI_leI (by omega) (by omega)).mpr (Nat.le_refl _)) c⟩
      rw [hb j]
      exact ⟨fun ⟨y, a, b, _, e⟩ => ⟨y, a, b, e⟩, fun ⟨y, a, b, e⟩ => ⟨y, a, b, rct_lt a b, e⟩⟩
    · intro U hU hb
      obtain ⟨y, hy, by1, ry, vy⟩ := lst_at hu hi
      refine gX0_divide_15 ⟨fun c => absurd ((nI_leI (by omega) (by omega)).mp c) (by omega), fun _ => ⟨fun c => absurd ((c4096le (by omega)).mp c) (by omega), fun _ => ⟨C4.gh A0, f1, C4.gg A1, 4096, C4.gh A5, i, IXn (by omega) (by omega), ?_⟩⟩⟩
      rw [i4, vy, fa_or, nI_1]
      refine ih (U ||| y) (or_lt hU hy) (fun j => ?_)
      rw [Nat.testBit_or, Bool.or_eq_true, hb j]
      constructor
      · rintro (⟨y', a, b, c, e⟩ | e)
        · exact ⟨y', a, b, by omega, e⟩
        · exact ⟨y, hy, by1, by omega, e⟩
      · rintro ⟨y', a, b, c, e⟩
        by_cases q : rct O y' = i
        · rw [rct_inj b by1 (q.trans ry.symm)] at e; exact Or.inr e
        · exact Or.inl ⟨y', a, b, by omega, e⟩
  exact L 0 (by omega) 0 (by omega) (fun j => by rw [Nat.zero_testBit]; exact ⟨fun z => absurd z (by decide), fun ⟨y, _, _, z, _⟩ => absurd z (by omega)⟩)

