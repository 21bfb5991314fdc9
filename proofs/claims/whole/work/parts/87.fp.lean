/-! PURE ROWS: the quotient of two whole numbers is a number. -/
theorem f_tails : Jvm.FP.Core.b64.tails = 4503599627370496 := by decide
theorem f_exps : Jvm.FP.Core.b64.exps = 2048 := by decide
theorem f_qmin : Jvm.FP.Core.b64.qmin = -1074 := by decide
theorem f_qmax : Jvm.FP.Core.b64.qmax = 971 := by decide
theorem f_p : Jvm.FP.Core.b64.p = 53 := rfl
theorem f_p2 : (2 : Nat) ^ Jvm.FP.Core.b64.p = 9007199254740992 := by decide
theorem f_asm (s : Bool) (e t : Nat) : Jvm.FP.Core.assemble Jvm.FP.Core.b64 s e t = (s.toNat * 2048 + e) * 4503599627370496 + t := by
  unfold Jvm.FP.Core.assemble
  rw [f_exps, f_tails]
theorem f_b (s : Bool) : s.toNat ≤ 1 := by cases s <;> decide
/-- the bits of what fits: no greater than those of an infinity -/
theorem f_enc {D : Jvm.FP.Core.Datum} (h : (∃ s, D = .inf s) ∨ ∃ s c q, D = .fin s c q ∧ c < 9007199254740992 ∧ q ≤ 971) : Jvm.FP.Core.encode Jvm.FP.Core.b64 D < 2 * 9223372036854775808 ∧ Jvm.FP.Core.encode Jvm.FP.Core.b64 D % 9223372036854775808 ≤ 9218868437227405312 := by
  rcases h with ⟨s, rfl⟩ | ⟨s, c, q, rfl, hc', hq⟩
  · show Jvm.FP.Core.assemble Jvm.FP.Core.b64 s (Jvm.FP.Core.b64.exps - 1) 0 < _ ∧ Jvm.FP.Core.assemble Jvm.FP.Core.b64 s (Jvm.FP.Core.b64.exps - 1) 0 % _ ≤ _
    rw [f_asm, f_exps]
    have := f_b s
    omega
  · show (if c < Jvm.FP.Core.b64.tails then Jvm.FP.Core.assemble Jvm.FP.Core.b64 s 0 c else Jvm.FP.Core.assemble Jvm.FP.Core.b64 s ((q - Jvm.FP.Core.b64.qmin).toNat + 1) (c - Jvm.FP.Core.b64.tails)) < _ ∧ (if c < Jvm.FP.Core.b64.tails then Jvm.FP.Core.assemble Jvm.FP.Core.b64 s 0 c else Jvm.FP.Core.assemble Jvm.FP.Core.b64 s ((q - Jvm.FP.Core.b64.qmin).toNat + 1) (c - Jvm.FP.Core.b64.tails)) % _ ≤ _
    rw [f_asm, f_asm, f_tails, f_qmin]
    have := f_b s
    split
    · omega
    · have : (q - -1074).toNat ≤ 2045 := by omega
      generalize (q - -1074).toNat = u at this
      omega
theorem f_enc0 {s : Bool} {c : Nat} {q : Int} (h : c < 4503599627370496) : Jvm.FP.Core.encode Jvm.FP.Core.b64 (.fin s c q) = Jvm.FP.Core.assemble Jvm.FP.Core.b64 s 0 c := by
  show (if c < Jvm.FP.Core.b64.tails then Jvm.FP.Core.assemble Jvm.FP.Core.b64 s 0 c else Jvm.FP.Core.assemble Jvm.FP.Core.b64 s ((q - Jvm.FP.Core.b64.qmin).toNat + 1) (c - Jvm.FP.Core.b64.tails)) = _
  rw [if_pos (by rw [f_tails]; exact h)]
/-- rounding ends in a number or an infinity -/
theorem f_round (s : Bool) (a b : Nat) (e : Int) : (∃ t, Jvm.FP.Core.roundRatio Jvm.FP.Core.b64 s a b e = .inf t) ∨ ∃ t c q, Jvm.FP.Core.roundRatio Jvm.FP.Core.b64 s a b e = .fin t c q ∧ c < 9007199254740992 ∧ q ≤ 971 := by
  unfold Jvm.FP.Core.roundRatio
  split
  · exact Or.inr ⟨_, _, _, rfl, by omega, by rw [f_qmin]; omega⟩
  · unfold Jvm.FP.Core.roundAt Jvm.FP.Core.settle Jvm.FP.Core.bound
    rw [f_p2, f_qmax, f_tails]
    split
    · rename_i h
      split
      · rename_i h2
        exact Or.inr ⟨_, _, _, rfl, h, h2⟩
      · exact Or.inl ⟨_, rfl⟩
    · split
      · rename_i h2
        exact Or.inr ⟨_, _, _, rfl, by omega, h2⟩
      · exact Or.inl ⟨_, rfl⟩
theorem f_dec {n s e t : Nat} (hn : n = (s * 2048 + e) * 4503599627370496 + t) (he : e < 2047) (ht : t < 4503599627370496) : ∃ b c q, Jvm.FP.Core.decode Jvm.FP.Core.b64 n = .fin b c q ∧ (0 < e → c ≠ 0) := by
  have e1 : Jvm.FP.Core.fieldE Jvm.FP.Core.b64 n = e := by
    unfold Jvm.FP.Core.fieldE
    rw [f_tails, f_exps, hn]
    omega
  unfold Jvm.FP.Core.decode
  rw [e1, f_exps, if_neg (by omega)]
  split
  · exact ⟨_, _, _, rfl, fun z => by omega⟩
  · refine ⟨_, _, _, rfl, fun _ => ?_⟩
    rw [f_tails]
    omega
theorem f_int (i : Int) (hi : i.natAbs < 4294967296) : ∃ b c q, Jvm.FP.Core.decode Jvm.FP.Core.b64 (Jvm.FP.Core.fromInt Jvm.FP.Core.b64 i) = .fin b c q ∧ (i ≠ 0 → c ≠ 0) ∧ Jvm.FP.Core.fromInt Jvm.FP.Core.b64 i < 2 * 9223372036854775808 := by
  have hu := f_round (decide (i < 0)) i.natAbs 1 0
  have en := f_enc (D := Jvm.FP.Core.round Jvm.FP.Core.b64 (Jvm.FP.Core.ofInt i)) hu
  have main : ∃ b c q, Jvm.FP.Core.decode Jvm.FP.Core.b64 (Jvm.FP.Core.fromInt Jvm.FP.Core.b64 i) = .fin b c q ∧ (i ≠ 0 → c ≠ 0) := by
    generalize hc0 : i.natAbs = c at hi
    have er : Jvm.FP.Core.round Jvm.FP.Core.b64 (Jvm.FP.Core.ofInt i) = Jvm.FP.Core.roundRatio Jvm.FP.Core.b64 (decide (i < 0)) c 1 0 := by rw [← hc0]; rfl
    by_cases z : c = 0
    · have e1 : Jvm.FP.Core.fromInt Jvm.FP.Core.b64 i = Jvm.FP.Core.assemble Jvm.FP.Core.b64 (decide (i < 0)) 0 0 := by
        unfold Jvm.FP.Core.fromInt
        rw [er]
        unfold Jvm.FP.Core.roundRatio
        rw [if_pos z]
        exact f_enc0 (by omega)
      rw [f_asm] at e1
      obtain ⟨b, c', q, h1, h2⟩ := f_dec (e := 0) (t := 0) e1 (by omega) (by omega)
      exact ⟨b, c', q, h1, fun y => absurd (Int.natAbs_eq_zero.mp (hc0.trans z)) y⟩
    · have l1 : 2 ^ c.log2 ≤ c := Nat.log2_self_le z
      have l2 : c < 2 ^ (c.log2 + 1) := Nat.lt_log2_self
      have l3 : c.log2 < 32 := (Nat.log2_lt z).mpr (by omega)
      obtain ⟨k, hk⟩ : ∃ k, c.log2 = k := ⟨_, rfl⟩
      rw [hk] at l1 l2 l3
      have lead : Jvm.FP.Core.leading c 1 = (k : Int) := by
        show (if 1 * 2 ^ (((c.log2 : Int) - ((1 : Nat).log2 : Int)).toNat) ≤ c * 2 ^ ((-((c.log2 : Int) - ((1 : Nat).log2 : Int))).toNat) then ((c.log2 : Int) - ((1 : Nat).log2 : Int)) else ((c.log2 : Int) - ((1 : Nat).log2 : Int)) - 1) = k
        rw [hk, show (Nat.log2 1 : Nat) = 0 by decide]
        have e0 : ((k : Int) - ((0 : Nat) : Int)) = k := by omega
        rw [e0, Int.toNat_natCast, show (-(k : Int)).toNat = 0 by omega, if_pos (by omega)]
      have quan : Jvm.FP.Core.quantum Jvm.FP.Core.b64 c 1 0 = (k : Int) - 52 := by
        unfold Jvm.FP.Core.quantum
        rw [lead, f_qmin, f_p]
        have e0 : (k : Int) + 0 - (((53 : Nat) : Int) - 1) = (k : Int) - 52 := by omega
        rw [e0]
        exact Int.max_eq_right (by omega)
      have near : Jvm.FP.Core.nearest (Jvm.FP.Core.unitsNum c 0 ((k : Int) - 52)) (Jvm.FP.Core.unitsDen 1 0 ((k : Int) - 52)) = c * 2 ^ (52 - k) := by
        unfold Jvm.FP.Core.unitsNum Jvm.FP.Core.unitsDen
        rw [show ((0 : Int) - ((k : Int) - 52)).toNat = 52 - k by omega, show ((k : Int) - 52 - 0).toNat = 0 by omega]
        unfold Jvm.FP.Core.nearest
        rw [Nat.pow_zero, Nat.mul_one, Nat.mod_one, if_pos (by omega), Nat.div_one]
      have b1 : 4503599627370496 ≤ c * 2 ^ (52 - k) := by
        have : 2 ^ k * 2 ^ (52 - k) = 4503599627370496 := by rw [← Nat.pow_add, show k + (52 - k) = 52 by omega]
        rw [← this]; exact Nat.mul_le_mul_right _ l1
      have b2 : c * 2 ^ (52 - k) < 9007199254740992 := by
        have : 2 ^ (k + 1) * 2 ^ (52 - k) = 9007199254740992 := by rw [← Nat.pow_add, show k + 1 + (52 - k) = 53 by omega]
        rw [← this]; exact Nat.mul_lt_mul_of_pos_right l2 (Nat.two_pow_pos _)
      generalize c * 2 ^ (52 - k) = u at near b1 b2
      have er2 : Jvm.FP.Core.roundRatio Jvm.FP.Core.b64 (decide (i < 0)) c 1 0 = .fin (decide (i < 0)) u ((k : Int) - 52) := by
        unfold Jvm.FP.Core.roundRatio
        rw [if_neg z, quan]
        unfold Jvm.FP.Core.roundAt
        rw [near]
        unfold Jvm.FP.Core.settle Jvm.FP.Core.bound
        rw [f_p2, if_pos b2, f_qmax, if_pos (by omega)]
      have e1 : Jvm.FP.Core.fromInt Jvm.FP.Core.b64 i = Jvm.FP.Core.assemble Jvm.FP.Core.b64 (decide (i < 0)) (((k : Int) - 52 - Jvm.FP.Core.b64.qmin).toNat + 1) (u - Jvm.FP.Core.b64.tails) := by
        unfold Jvm.FP.Core.fromInt
        rw [er, er2]
        exact if_neg (by rw [f_tails]; omega)
      rw [f_asm, f_tails, f_qmin] at e1
      obtain ⟨b, c', q, h1, h2⟩ := f_dec (e := ((k : Int) - 52 - -1074).toNat + 1) (t := u - 4503599627370496) e1 (by omega) (by omega)
      exact ⟨b, c', q, h1, fun _ => h2 (by omega)⟩
  obtain ⟨b, c, q, h1, h2⟩ := main
  exact ⟨b, c, q, h1, h2, en.1⟩
theorem n64_of (r : UInt64) (h : r.toNat % 9223372036854775808 ≤ 9218868437227405312) : vf_n64 r := by
  unfold vf_n64
  rw [UInt64.le_iff_toNat_le, UInt64.toNat_and]
  have e1 : (0x7fffffffffffffff : UInt64).toNat = 2 ^ 63 - 1 := by decide
  have e2 : (0x7ff0000000000000 : UInt64).toNat = 9218868437227405312 := by decide
  rw [e1, e2, Nat.and_two_pow_sub_one_eq_mod]
  exact h
/-- the quotient of two ints, the second not 0, is no NaN -/
theorem mean_ok (x y : Int32) (hy : y ≠ 0) : vf_n64 (FP.ddiv (FP.i2d x) (FP.i2d y)) := by
  have bx := Int32.toInt_lt x
  have bx2 := Int32.le_toInt x
  have by1 := Int32.toInt_lt y
  have by2 := Int32.le_toInt y
  obtain ⟨b, c, q, h1, -, h3⟩ := f_int x.toInt (by omega)
  obtain ⟨b', c', q', k1, k2, k3⟩ := f_int y.toInt (by omega)
  have nz : y.toInt ≠ 0 := fun z => hy (Int32.toInt_inj.mp (z.trans (by decide)))
  have tn : ∀ n : Nat, n < 2 * 9223372036854775808 → (UInt64.ofNat n).toNat = n := fun n hn => UInt64.toNat_ofNat_of_lt' (by show n < 2 ^ 64; omega)
  have hx : (FP.i2d x).toNat = Jvm.FP.Core.fromInt Jvm.FP.Core.b64 x.toInt := tn _ h3
  have hy2 : (FP.i2d y).toNat = Jvm.FP.Core.fromInt Jvm.FP.Core.b64 y.toInt := tn _ k3
  have hd : Jvm.FP.Core.div Jvm.FP.Core.b64 (FP.i2d x).toNat (FP.i2d y).toNat = Jvm.FP.Core.encode Jvm.FP.Core.b64 (Jvm.FP.Core.roundRatio Jvm.FP.Core.b64 (b != b') c c' (q - q')) := by
    unfold Jvm.FP.Core.div
    rw [hx, hy2, h1, k1]
    exact congrArg _ (if_neg (k2 nz))
  have en := f_enc (f_round (b != b') c c' (q - q'))
  rw [← hd] at en
  apply n64_of
  show (UInt64.ofNat (Jvm.FP.Core.div Jvm.FP.Core.b64 (FP.i2d x).toNat (FP.i2d y).toNat)).toNat % _ ≤ _
  rw [tn _ en.1]
  exact en.2
/-- a long that is an int gives the same double -/
theorem l2d_i2d (x : Int32) : FP.l2d x.toInt64 = FP.i2d x := by
  show UInt64.ofNat (Jvm.FP.Core.fromInt Jvm.FP.Core.b64 x.toInt64.toInt) = UInt64.ofNat (Jvm.FP.Core.fromInt Jvm.FP.Core.b64 x.toInt)
  rw [Int32.toInt_toInt64]
