/-! PURE ROWS: words as sets of bits, rows as sets of masks. -/
theorem cmp0 (x y : Int64) : lg_cmp x y = 0 ↔ x = y := by
  constructor
  · intro h
    have h1 := (lg_cmp_ge x y).mp (by rw [h]; decide)
    have h2 := (lg_cmp_le x y).mp (by rw [h]; decide)
    apply Int64.toInt_inj.mp
    rw [Int64.le_iff_toInt_le] at h1 h2
    omega
  · intro h
    subst h
    unfold lg_cmp
    have : ¬ x > x := by
      show ¬ x < x
      rw [Int64.lt_iff_toInt_lt]; omega
    rw [if_neg this, if_pos rfl]
def wb (x : Int64) (i : Nat) : Bool := x.toBitVec.getLsbD i
theorem wb_ext {x y : Int64} (h : ∀ i, i < 64 → wb x i = wb y i) : x = y := Int64.toBitVec_inj.mp (BitVec.eq_of_getLsbD_eq (fun i hi => h i hi))
theorem wb_ge (x : Int64) {i : Nat} (h : 64 ≤ i) : wb x i = false := BitVec.getLsbD_of_ge _ _ h
theorem w_or (x y : Int64) (i : Nat) : wb (x ||| y) i = (wb x i || wb y i) := by unfold wb; rw [Int64.toBitVec_or, BitVec.getLsbD_or]
theorem w_and (x y : Int64) (i : Nat) : wb (x &&& y) i = (wb x i && wb y i) := by unfold wb; rw [Int64.toBitVec_and, BitVec.getLsbD_and]
theorem w_xor (x y : Int64) (i : Nat) : wb (x ^^^ y) i = (wb x i ^^ wb y i) := by unfold wb; rw [Int64.toBitVec_xor, BitVec.getLsbD_xor]
theorem w_zero (i : Nat) : wb 0 i = false := BitVec.getLsbD_zero
theorem w_m1 {i : Nat} (h : i < 64) : wb (-1) i = true := by
  have ha : (-1 : Int64).toBitVec = BitVec.allOnes 64 := by decide
  unfold wb
  rw [ha, BitVec.getLsbD_allOnes, decide_eq_true h]
theorem w_not (x : Int64) {i : Nat} (h : i < 64) : wb (x ^^^ (-1)) i = !wb x i := by rw [w_xor, w_m1 h, Bool.xor_true]
theorem w_lN (n : Nat) {i : Nat} (h : i < 64) : wb (lN n) i = n.testBit i := by
  unfold wb
  rw [wb_tb, BitVec.getLsbD_ofNat, decide_eq_true h, Bool.true_and]
theorem w_shr (x : Int64) {c : UInt64} (k : Nat) (hk : k < 64) (hc : c = UInt64.ofNat k) (i : Nat) : wb ((x.toUInt64 >>> c).toInt64) i = wb x (k + i) := by
  obtain ⟨n, hn, rfl⟩ := wb_of x
  subst hc
  rcases Nat.lt_or_ge i 64 with h | h
  · rw [l_ush k hn (by rw [UInt64.toNat_ofNat']; omega), w_lN _ h, Nat.testBit_div_two_pow, Nat.add_comm]
    rcases Nat.lt_or_ge (k + i) 64 with h2 | h2
    · rw [w_lN _ h2]
    · rw [wb_ge _ h2]
      exact Nat.testBit_lt_two_pow (Nat.lt_of_lt_of_le hn (Nat.pow_le_pow_right (by decide) h2))
  · rw [wb_ge _ h, wb_ge _ (by omega)]
theorem w_shl (x : Int64) {c : Int64} (k : Nat) (hk : k < 64) (hc : c = lN k) {i : Nat} (h : i < 64) : wb (x <<< c) i = (decide (k ≤ i) && wb x (i - k)) := by
  obtain ⟨n, hn, rfl⟩ := wb_of x
  have e : lN n <<< c = lN (n * 2 ^ k) := by rw [hc, ← wb_c k hk]; exact wb_shl n hk
  rw [e, w_lN _ h, w_lN _ (by omega), Nat.mul_comm, Nat.testBit_two_pow_mul]
theorem w_zero_iff (x : Int64) : x = 0 ↔ ∀ i, i < 64 → wb x i = false := ⟨fun h i _ => by rw [h, w_zero], fun h => wb_ext (fun i hi => by rw [h i hi, w_zero])⟩
theorem w_1 (i : Nat) : wb 1 i = decide (i = 0) := by
  rcases Nat.lt_or_ge i 64 with h | h
  · show wb (lN 1) i = _
    rw [w_lN _ h]
    cases i with
    | zero => rfl
    | succ i => rw [Nat.testBit_succ]; simp
  · rw [wb_ge _ h, decide_eq_false (by omega)]
theorem w_b1 (x : Int64) : x &&& 1 = 0 ↔ wb x 0 = false := by
  rw [w_zero_iff]
  constructor
  · intro h
    have := h 0 (by omega)
    rw [w_and, w_1] at this
    simpa using this
  · intro h i hi
    rw [w_and, w_1]
    by_cases c : i = 0
    · subst c; rw [h]; rfl
    · simp [c]
def bitL (k : Nat) : Int64 := (1 : Int64) <<< (Int32.toInt64 (nI k) &&& 63)
theorem w_bitL {k : Nat} (hk : k < 64) {i : Nat} (h : i < 64) : wb (bitL k) i = decide (i = k) := by
  unfold bitL
  rw [w_shl _ k hk (wb_c k hk) h, w_1]
  by_cases c : i = k
  · subst c; simp
  · simp [c]; omega
/-- a row as a set of masks -/
def bs (r : Nat → Int64) (m : Nat) : Bool := wb (r (m / 64)) (m % 64)
theorem bs_word (r : Nat → Int64) (w i : Nat) (h : i < 64) : bs r (64 * w + i) = wb (r w) i := by
  unfold bs
  rw [show (64 * w + i) / 64 = w by omega, show (64 * w + i) % 64 = i by omega]
theorem bs_ext {r s : Nat → Int64} (h : ∀ m, m < 4096 → bs r m = bs s m) : ∀ w, w < 64 → r w = s w := by
  intro w hw
  apply wb_ext
  intro i hi
  have := h (64 * w + i) (by omega)
  rwa [bs_word _ _ _ hi, bs_word _ _ _ hi] at this
theorem bs_congr {r s : Nat → Int64} (h : ∀ w, w < 64 → r w = s w) {m : Nat} (hm : m < 4096) : bs r m = bs s m := by
  unfold bs
  rw [h _ (by omega)]
theorem bs_fl {f g : Nat → Int64} {m : Nat} (hm : m < 4096) : bs (fl f g 64) m = bs f m := by
  unfold bs
  rw [fl_in (by omega)]
theorem ix64 {m : Nat} (h : m < 4096) : nI m / 64 = nI (m / 64) := pk_div (d := 64) (by omega) (by decide) (by decide)
theorem rm64 {m : Nat} (h : m < 4096) : nI m - nI m / 64 * 64 = nI (m % 64) := pk_rem (d := 64) (by omega) (by decide) (by decide)
theorem nIlt {a : Nat} (b : Nat) (ha : a < 2 ^ 31) (hb : b < 2 ^ 31) : nI a < nI b ↔ a < b := nI_ltI ha hb
theorem nn0 {a : Nat} (ha : a < 2 ^ 31) : ¬ nI a < 0 := nI_pos ha
theorem c64le {m : Nat} (h : m < 2 ^ 31) : (64 : Int32) ≤ nI m ↔ 64 ≤ m := nI_leI (by decide) h
theorem c4096le {m : Nat} (h : m < 2 ^ 31) : (4096 : Int32) ≤ nI m ↔ 4096 ≤ m := nI_leI (by decide) h
theorem c12le {m : Nat} (h : m < 2 ^ 31) : (12 : Int32) ≤ nI m ↔ 12 ≤ m := nI_leI (by decide) h
def b2i (b : Bool) : Int32 := if b then 1 else 0
/-- an int is negative or a number -/
theorem i_cases (x : Int32) : x < 0 ∨ ∃ k, k < 2 ^ 31 ∧ x = nI k := by
  by_cases h : x < 0
  · exact Or.inl h
  · exact Or.inr (nI_of h)

