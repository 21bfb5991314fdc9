/-! ROWS of Algebra: countPairs, pair. -/
def opn (b : Bool) (x y : Nat) : Nat := if b then x &&& y else x ||| y
def isOp (b : Bool) (F G : Nat → Bool) (m : Nat) : Prop := ∃ x y, x < 4096 ∧ y < 4096 ∧ F x = true ∧ G y = true ∧ opn b x y = m
theorem opn_lt {b : Bool} {x y : Nat} (hx : x < 4096) (hy : y < 4096) : opn b x y < 4096 := by
  cases b
  · exact or_lt hx hy
  · exact and_lt hx
theorem dn_const {F : Nat → Bool} {k m : Nat} (hm : m < 2 ^ k) : ∀ j, dn F (k + j) m = dn F k m := by
  intro j
  induction j with
  | zero => rfl
  | succ j ih =>
    rw [← Nat.add_assoc, dn_s, ih, Nat.testBit_lt_two_pow (Nat.lt_of_lt_of_le hm (Nat.pow_le_pow_right (by decide) (by omega))), if_neg (by decide)]
    exact Nat.add_zero _
theorem jn_const {F G : Nat → Bool} {k m : Nat} (hm : m < 2 ^ k) : ∀ j, jn F G (k + j) m = jn F G k m := by
  intro j
  induction j with
  | zero => rfl
  | succ j ih =>
    have := jn_s F G (k + j) m
    rw [Nat.testBit_lt_two_pow (Nat.lt_of_lt_of_le hm (Nat.pow_le_pow_right (by decide) (by omega))), if_neg (by decide)] at this
    rw [← Nat.add_assoc, ← ih]
    exact (this.trans (Nat.add_zero _)).symm
def cutF (r : Nat → Int64) (k fp m : Nat) : Bool := decide (m < 2 ^ k) && bs r (m ^^^ fp)
theorem i_sub (x y : Int32) : x + y + (-1) * y = x := by
  rw [Int32.neg_mul, Int32.one_mul, Int32.add_assoc, Int32.add_right_neg, Int32.add_zero]
theorem i_mul1 (x : Int32) : 1 * x = x := Int32.one_mul x
theorem dn_steps (F : Nat → Bool) (e m : Nat) : nI (dn F (e + 1) m) = if m.testBit e then nI (dn F e m) + 1 * nI (dn F e (m - 2 ^ e)) else nI (dn F e m) := by
  rw [dn_s]
  cases m.testBit e
  · rw [if_neg (by decide), if_neg (by decide)]
    exact congrArg nI (Nat.add_zero _)
  · rw [if_pos rfl, if_pos rfl, i_mul1, nI_add]
theorem jn_steps (F G : Nat → Bool) (e m : Nat) : nI (jn F G (e + 1) m) = if m.testBit e then nI (jn F G e m) + (-1) * nI (jn F G e (m - 2 ^ e)) else nI (jn F G e m) := by
  have := jn_s F G e m
  cases h : m.testBit e
  · rw [h, if_neg (by decide)] at this
    rw [if_neg (by decide)]
    exact congrArg nI (this.trans (Nat.add_zero _)).symm
  · rw [h, if_pos rfl] at this
    rw [if_pos rfl, this, ← nI_add, i_sub]
theorem xor_xor_c (m f : Nat) : (m ^^^ f) ^^^ f = m := by rw [Nat.xor_assoc, Nat.xor_self, Nat.xor_zero]
theorem tb_ones (k i : Nat) : (2 ^ k - 1).testBit i = decide (i < k) := Nat.testBit_two_pow_sub_one k i
theorem cut_op {A B : Nat → Int64} {k : Nat} (hk : k ≤ 12) (b : Bool) (hA : ∀ x, x < 4096 → bs A x = true → x < 2 ^ k) (hB : ∀ x, x < 4096 → bs B x = true → x < 2 ^ k) (m : Nat) : (∃ y, y < 2 ^ k ∧ isJn (cutF A k (if b then 2 ^ k - 1 else 0)) (cutF B k (if b then 2 ^ k - 1 else 0)) y ∧ m = y ^^^ (if b then 2 ^ k - 1 else 0)) ↔ isOp b (bs A) (bs B) m := by
  have hp : 2 ^ k ≤ 2 ^ 12 := Nat.pow_le_pow_right (by decide) hk
  have h0 := Nat.two_pow_pos k
  generalize hf : (if b then 2 ^ k - 1 else 0) = fp
  have hfl : fp < 2 ^ k := by rw [← hf]; cases b <;> simp <;> omega
  have key : ∀ x y, x < 2 ^ k → y < 2 ^ k → ((x ^^^ fp) ||| (y ^^^ fp)) ^^^ fp = opn b x y := by
    intro x y hx hy
    apply Nat.eq_of_testBit_eq
    intro i
    rw [Nat.testBit_xor, Nat.testBit_or, Nat.testBit_xor, Nat.testBit_xor, ← hf]
    cases b
    · simp [opn]
    · simp only [opn, if_true, tb_ones, Nat.testBit_and]
      rcases Nat.lt_or_ge i k with c | c
      · rw [decide_eq_true c]; cases x.testBit i <;> cases y.testBit i <;> rfl
      · rw [decide_eq_false (by omega), Nat.testBit_lt_two_pow (Nat.lt_of_lt_of_le hx (Nat.pow_le_pow_right (by decide) c)), Nat.testBit_lt_two_pow (Nat.lt_of_lt_of_le hy (Nat.pow_le_pow_right (by decide) c))]; rfl
  constructor
  · rintro ⟨y, hy, ⟨u, v, hu, hv, fu, fv, e⟩, rfl⟩
    unfold cutF at fu fv
    rw [Bool.and_eq_true] at fu fv
    have ku := of_decide_eq_true fu.1
    have kv := of_decide_eq_true fv.1
    have lu := Nat.xor_lt_two_pow ku hfl
    have lv := Nat.xor_lt_two_pow kv hfl
    refine ⟨u ^^^ fp, v ^^^ fp, by omega, by omega, fu.2, fv.2, ?_⟩
    rw [← key _ _ lu lv, xor_xor_c, xor_xor_c, e]
  · rintro ⟨x, y, hx, hy, fx, fy, rfl⟩
    have kx := hA x hx fx
    have ky := hB y hy fy
    have lx := Nat.xor_lt_two_pow kx hfl
    have ly := Nat.xor_lt_two_pow ky hfl
    refine ⟨(x ^^^ fp) ||| (y ^^^ fp), Nat.or_lt_two_pow lx ly, ⟨x ^^^ fp, y ^^^ fp, by omega, by omega, ?_, ?_, rfl⟩, (key x y kx ky).symm⟩
    · unfold cutF; rw [decide_eq_true lx, xor_xor_c, fx]; rfl
    · unfold cutF; rw [decide_eq_true ly, xor_xor_c, fy]; rfl
theorem b2i_dn {F : Nat → Bool} {m : Nat} (hm : m < 4096) : b2i (F m) = nI (dn F 0 m) := by
  rw [dn_0 hm]; cases F m <;> rfl
theorem countPairs_R {Γ : Gm} {d : Nat} {σ : AH} {al f1 f2 sp st row other n : Nat} (b : Bool) (A : AlgOK σ al f1 f2 sp st) (hr : hs σ row = some (23, 64)) (ho : hs σ other = some (23, n)) (hn : 64 ≤ n) (hd : 4 ≤ d) : RV Γ d MX0_countPairs [.ref al, .ref row, .ref other, .int (b2i b)] σ (fun σ' => Chg (aI f1 f2) (aJ sp st row) σ σ' ∧ ∀ m, m < 4096 → (bs (gj σ' row) m = true ↔ isOp b (bs (gj σ row)) (bs (gj σ other)) m)) := by
  have A' := A
  obtain ⟨A0, A1, A2, A3, A4, A5, A6, A7, A8, A9, A10⟩ := A'
  generalize hR : gj σ row = R
  generalize hO : gj σ other = O
  refine eX0_countPairs ?_
  refine CI.of (d2 := 3) (span_R hr (by omega) (by omega)) (by omega) (fun r1 σ1 hw e1 => ?_)
  obtain ⟨rfl, k1, hk1, rfl, s1⟩ := e1
  refine CI.of (d2 := 3) (span_R ho hn (by omega)) (by omega) (fun r2 σ2 hw e2 => ?_)
  obtain ⟨rfl, k2, hk2, rfl, s2⟩ := e2
  refine ⟨by omega, ?_⟩
  -- the common span
  have sp12 : ∃ k, k ≤ 12 ∧ (if nI (2 ^ k1) < nI (2 ^ k2) then nI (2 ^ k2) else nI (2 ^ k1)) = nI (2 ^ k) ∧ k1 ≤ k ∧ k2 ≤ k := by
    have p1 : 2 ^ k1 ≤ 2 ^ 12 := Nat.pow_le_pow_right (by decide) hk1
    have p2 : 2 ^ k2 ≤ 2 ^ 12 := Nat.pow_le_pow_right (by decide) hk2
    by_cases c : nI (2 ^ k1) < nI (2 ^ k2)
    · have := (nI_ltI (by omega) (by omega)).mp c
      refine ⟨k2, hk2, if_pos c, ?_, Nat.le_refl _⟩
      rcases Nat.lt_or_ge k2 k1 with z | z
      · have := Nat.pow_lt_pow_right (show 1 < 2 by decide) z; omega
      · exact z
    · refine ⟨k1, hk1, if_neg c, Nat.le_refl _, ?_⟩
      rcases Nat.lt_or_ge k1 k2 with z | z
      · have := Nat.pow_lt_pow_right (show 1 < 2 by decide) z
        exact absurd ((nI_ltI (by omega) (by omega)).mpr this) c
      · exact z
  obtain ⟨k, hk, ek, g1, g2⟩ := sp12
  rw [ek]
  have hp : 2 ^ k ≤ 2 ^ 12 := Nat.pow_le_pow_right (by decide) hk
  have h0 := Nat.two_pow_pos k
  have SA : ∀ x, x < 4096 → bs R x = true → x < 2 ^ k := fun x hx h => Nat.lt_of_lt_of_le (s1 x hx (by rw [hR]; exact h)) (Nat.pow_le_pow_right (by decide) g1)
  have SB : ∀ x, x < 4096 → bs O x = true → x < 2 ^ k := fun x hx h => Nat.lt_of_lt_of_le (s2 x hx (by rw [hO]; exact h)) (Nat.pow_le_pow_right (by decide) g2)
  have main : ∀ fp, fp = (if b then 2 ^ k - 1 else 0) → EV Γ MX0_countPairs d 25 [some (.ref al), some (.ref row), some (.ref other), none, some (.int (nI (2 ^ k))), none, none] [.int (nI fp)] σ2 (fun o σ' => o = .inl none ∧ Chg (aI f1 f2) (aJ sp st row) σ2 σ' ∧ ∀ m, m < 4096 → (bs (gj σ' row) m = true ↔ isOp b (bs R) (bs O) m)) := by
    intro fp hfp
    have hfl : fp < 2 ^ k := by rw [hfp]; cases b <;> simp <;> omega
    generalize hF : cutF R k fp = F
    generalize hG : cutF O k fp = G
    refine gX0_countPairs_25 ⟨A0, f1, A1, ?_⟩
    refine CV.of (d2 := 3) (spread_R hr A5 (by omega) hk hfl (by omega)) (by omega) (fun σ4 hw e4 => ?_)
    obtain ⟨u1, e4, hu1⟩ := e4
    have C4 : Chg (aI f1 f2) (aJ sp st row) σ2 σ4 := by rw [e4]; exact Chg.rowI _ _ (Or.inl rfl)
    refine ⟨C4.gh A0, f2, C4.gg A2, ?_⟩
    refine CV.of (d2 := 3) (spread_R (C4.gh ho) (C4.gh A6) hn hk hfl (by omega)) (by omega) (fun σ9 hw e9 => ?_)
    obtain ⟨u2, e9, hu2⟩ := e9
    have C9 : Chg (aI f1 f2) (aJ sp st row) σ2 σ9 := by rw [e9]; exact C4.trans (Chg.rowI _ _ (Or.inr rfl))
    refine ⟨C9.gh A0, f1, C9.gg A1, ?_⟩
    have i1 : gi σ9 f1 = u1 := by rw [e9, gi_rown _ _ A9, e4, gi_row]
    have i2 : gi σ9 f2 = u2 := by rw [e9, gi_row]
    have z1 : ∀ m, m < 2 ^ k → u1 m = nI (dn F 0 m) := by
      intro m hm
      rw [hu1 m hm, hR, ← b2i_dn (by omega), ← hF]
      unfold cutF; rw [decide_eq_true hm]; rfl
    have z2 : ∀ m, m < 2 ^ k → u2 m = nI (dn G 0 m) := by
      intro m hm
      rw [hu2 m hm, show gj σ4 other = O by rw [e4]; exact hO, ← b2i_dn (by omega), ← hG]
      unfold cutF; rw [decide_eq_true hm]; rfl
    refine CV.of (d2 := 3) (sumSubsets_R (fun e m => nI (dn F e m)) (C9.gh A5) hk (fun m hm => by rw [i1, z1 m hm]) (fun e m he hm => dn_steps F e m)) (by omega) (fun σ14 hw e14 => ?_)
    obtain ⟨v1, e14, hv1⟩ := e14
    have C14 : Chg (aI f1 f2) (aJ sp st row) σ2 σ14 := by rw [e14]; exact C9.trans (Chg.rowI _ _ (Or.inl rfl))
    refine ⟨C14.gh A0, f2, C14.gg A2, ?_⟩
    refine CV.of (d2 := 3) (sumSubsets_R (fun e m => nI (dn G e m)) (C14.gh A6) hk (fun m hm => by rw [e14, gi_rown _ _ (Ne.symm A9), i2, z2 m hm]) (fun e m he hm => dn_steps G e m)) (by omega) (fun σ19 hw e19 => ?_)
    obtain ⟨v2, e19, hv2⟩ := e19
    have C19 : Chg (aI f1 f2) (aJ sp st row) σ2 σ19 := by rw [e19]; exact C14.trans (Chg.rowI _ _ (Or.inr rfl))
    have j1 : gi σ19 f1 = v1 := by rw [e19, gi_rown _ _ A9, e14, gi_row]
    have j2 : gi σ19 f2 = v2 := by rw [e19, gi_row]
    -- the last loop
    have last : ∀ m, m ≤ 2 ^ k → ∀ τ, Chg (aI f1 f2) (aJ sp st row) σ2 τ → (∀ x, x < 2 ^ k → gi τ f1 x = nI (jn F G k x)) → (∀ y, y < 4096 → (bs (gj τ row) y = true ↔ ∃ x, x < m ∧ isJn F G x ∧ y = x ^^^ fp)) → EV Γ MX0_countPairs d 130 [some (.ref al), some (.ref row), none, none, some (.int (nI (2 ^ k))), some (.int (nI fp)), some (.int (nI m))] [] τ (fun o σ' => o = .inl none ∧ Chg (aI f1 f2) (aJ sp st row) σ2 σ' ∧ ∀ m, m < 4096 → (bs (gj σ' row) m = true ↔ isOp b (bs R) (bs O) m)) := by
      refine upto (2 ^ k) ?_ (fun m hm ih => ?_)
      · intro τ C hi hb
        refine gX0_countPairs_130 ⟨fun _ => ⟨rfl, C, fun y hy => ?_⟩, fun c => absurd ((nI_leI (by omega) (by omega)).mpr (Nat.le_refl _)) c⟩
        rw [hb y hy, ← cut_op hk b SA SB y, ← hfp, hF, hG]
      · intro τ C hi hb
        refine gX0_countPairs_130 ⟨fun c => absurd ((nI_leI (by omega) (by omega)).mp c) (by omega), fun _ => ⟨fun c => absurd ((c4096le (by omega)).mp c) (by omega), fun _ => ⟨C.gh A0, f1, C.gg A1, 4096, C.gh A5, m, IXn (by omega) (by omega), ?_⟩⟩⟩
        rw [hi m hm, nI_1]
        have jl := jn_le F G k m
        have je : jn F G 12 m = jn F G k m := by have := jn_const (F := F) (G := G) hm (12 - k); rwa [show k + (12 - k) = 12 by omega] at this
        have jp := jn_pos (F := F) (G := G) (m := m) (by omega)
        rw [je] at jp
        refine ⟨fun c => ih τ C hi (fun y hy => ?_), fun c => ?_⟩
        · have z : jn F G k m = 0 := (nI_eq (b := 0) (by omega) (by decide)).mp c
          rw [hb y hy]
          constructor
          · rintro ⟨x, hx, w⟩; exact ⟨x, by omega, w⟩
          · rintro ⟨x, hx, w, w2⟩
            by_cases q : x = m
            · subst q
              have := jp.mpr w
              omega
            · exact ⟨x, by omega, w, w2⟩
        · have z : 0 < jn F G k m := by
            rcases Nat.eq_zero_or_pos (jn F G k m) with q | q
            · exact absurd (by rw [q]; rfl) c
            · exact q
          have xl := Nat.xor_lt_two_pow hm hfl
          rw [nx_xor]
          refine CV.of (d2 := 3) (put_R (C.gh hr) (by omega) (by omega)) (by omega) (fun σ11 hw e11 => ?_)
          refine ih σ11 (by rw [e11]; exact C.trans (Chg.rowJ _ _ (Or.inr (Or.inr rfl)))) (by rw [e11]; exact hi) (fun y hy => ?_)
          rw [e11, gj_row, bs_rput, Bool.or_eq_true, hb y hy, decide_eq_true_iff]
          constructor
          · rintro (⟨x, hx, w⟩ | w)
            · exact ⟨x, by omega, w⟩
            · exact ⟨m, by omega, jp.mp z, w⟩
          · rintro ⟨x, hx, w, w2⟩
            by_cases q : x = m
            · subst q; exact Or.inr w2
            · exact Or.inl ⟨x, by omega, w, w2⟩
    have mid : ∀ m, m ≤ 2 ^ k → ∀ τ, Chg (aI f1 f2) (aJ sp st row) σ2 τ → gi τ f2 = v2 → (∀ x, x < 2 ^ k → gi τ f1 x = if x < m then nI (jn F G 0 x) else v1 x) → EV Γ MX0_countPairs d 74 [some (.ref al), some (.ref row), none, none, some (.int (nI (2 ^ k))), some (.int (nI fp)), some (.int (nI m))] [] τ (fun o σ' => o = .inl none ∧ Chg (aI f1 f2) (aJ sp st row) σ2 σ' ∧ ∀ m, m < 4096 → (bs (gj σ' row) m = true ↔ isOp b (bs R) (bs O) m)) := by
      refine upto (2 ^ k) ?_ (fun m hm ih => ?_)
      · intro τ C h2 hi
        refine gX0_countPairs_74 ⟨fun _ => ?_, fun c => absurd ((nI_leI (by omega) (by omega)).mpr (Nat.le_refl _)) c⟩
        refine gX0_countPairs_112 ⟨C.gh A0, f1, C.gg A1, ?_⟩
        refine CV.of (d2 := 3) (sumSubsets_R (fun e m => nI (jn F G e m)) (C.gh A5) hk (fun m hm => by rw [hi m hm, if_pos hm]) (fun e m he hm => jn_steps F G e m)) (by omega) (fun τ4 hw e4 => ?_)
        obtain ⟨w1, e4, hw1⟩ := e4
        have C4 : Chg (aI f1 f2) (aJ sp st row) σ2 τ4 := by rw [e4]; exact C.trans (Chg.rowI _ _ (Or.inl rfl))
        refine CV.of (d2 := 3) (fill_R 0 (C4.gh hr) (by omega)) (by omega) (fun τ6 hw e6 => ?_)
        refine last 0 (by omega) τ6 (by rw [e6]; exact C4.trans (Chg.rowJ _ _ (Or.inr (Or.inr rfl)))) (fun x hx => ?_) (fun y hy => ?_)
        · rw [e6]
          show gi τ4 f1 x = _
          rw [e4, gi_row, hw1 x hx]
        · rw [e6, gj_row, fill0_bs _ hy]
          exact ⟨fun z => absurd z (by decide), fun ⟨x, hx, _⟩ => absurd hx (by omega)⟩
      · intro τ C h2 hi
        refine gX0_countPairs_74 ⟨fun c => absurd ((nI_leI (by omega) (by omega)).mp c) (by omega), fun _ => ⟨fun c => absurd ((c4096le (by omega)).mp c) (by omega), fun _ => ⟨C.gh A0, f1, C.gg A1, 4096, C.gh A5, m, IXn (by omega) (by omega), f2, C.gg A2, 4096, C.gh A6, m, IXn (by omega) (by omega), fun σ16 h16 => ?_⟩⟩⟩
        have d12 : ∀ H : Nat → Bool, dn H 12 m = dn H k m := fun H => by have := dn_const (F := H) hm (12 - k); rwa [show k + (12 - k) = 12 by omega] at this
        have val : gi τ f1 m * gi τ f2 m = nI (jn F G 0 m) := by
          rw [hi m hm, if_neg (Nat.lt_irrefl m), h2, hv1 m hm, hv2 m hm, pk_mul, jn_0 (by omega), d12, d12]
        rw [val] at h16
        rw [nI_1]
        refine ih σ16 (by rw [h16]; exact C.trans (Chg.rowI _ _ (Or.inl rfl))) (by rw [h16]; unfold setI; rw [gi_rown _ _ (Ne.symm A9)]; exact h2) (fun x hx => ?_)
        rw [h16]
        unfold setI
        rw [gi_row]
        by_cases q : x = m
        · subst q; rw [up_same, if_pos (by omega)]
        · rw [up_ne _ _ q, hi x hx]
          by_cases q2 : x < m
          · rw [if_pos q2, if_pos (by omega)]
          · rw [if_neg q2, if_neg (by omega)]
    exact mid 0 (by omega) σ19 C19 j2 (fun x hx => by rw [j1, if_neg (by omega)])
  cases b
  · refine ⟨fun _ => main 0 rfl, fun c => absurd rfl c⟩
  · refine ⟨fun c => absurd c (by decide), fun _ => ?_⟩
    have := main (2 ^ k - 1) rfl
    rw [← pk_sub (b := 1) h0] at this
    exact this

