/-! PURE ROWS: loops, indices, shifts, leading and trailing zeros, bit counts of words. -/
theorem upto (N : Nat) {P : Nat → Prop} (h0 : P N) (hs : ∀ k, k < N → P (k + 1) → P k) : ∀ k, k ≤ N → P k := by
  have h : ∀ m k, k + m = N → P k := by
    intro m
    induction m with
    | zero => intro k hk; rw [show k = N by omega]; exact h0
    | succ m ih => intro k hk; exact hs k (by omega) (ih (k + 1) (by omega))
  exact fun k hk => h (N - k) k (by omega)
theorem downto {P : Nat → Prop} (h0 : P 0) (hs : ∀ k, P k → P (k + 1)) : ∀ k, P k := fun k => Nat.rec h0 (fun k ih => hs k ih) k
theorem IXn {n j : Nat} (h : j < n) (hj : j < 2 ^ 31) : IX (nI j) n j := ⟨nI_toInt (by omega), h⟩
theorem n_ush {k : Nat} (j : Nat) {c : UInt32} (hk : k < 2 ^ 32) (hc : c.toNat % 32 = j) : ((nI k).toUInt32 >>> c).toInt32 = nI (k / 2 ^ j) := by
  have e2 : UInt32.ofNat k >>> c = UInt32.ofNat (k / 2 ^ j) := by
    apply UInt32.toNat_inj.1
    have hs : k / 2 ^ j ≤ k := Nat.div_le_self _ _
    have h1 : (UInt32.ofNat k).toNat = k := Nat.mod_eq_of_lt (by omega)
    have h2 : (UInt32.ofNat (k / 2 ^ j)).toNat = k / 2 ^ j := Nat.mod_eq_of_lt (by omega)
    rw [UInt32.toNat_shiftRight, hc, h1, h2, Nat.shiftRight_eq_div_pow]
  show (UInt32.ofNat k >>> c).toInt32 = _
  rw [e2]
  rfl
theorem l_ush {k : Nat} (j : Nat) {c : UInt64} (hk : k < 2 ^ 64) (hc : c.toNat % 64 = j) : ((lN k).toUInt64 >>> c).toInt64 = lN (k / 2 ^ j) := by
  have e2 : UInt64.ofNat k >>> c = UInt64.ofNat (k / 2 ^ j) := by
    apply UInt64.toNat_inj.1
    have hs : k / 2 ^ j ≤ k := Nat.div_le_self _ _
    have h1 : (UInt64.ofNat k).toNat = k := Nat.mod_eq_of_lt (by omega)
    have h2 : (UInt64.ofNat (k / 2 ^ j)).toNat = k / 2 ^ j := Nat.mod_eq_of_lt (by omega)
    rw [UInt64.toNat_shiftRight, hc, h1, h2, Nat.shiftRight_eq_div_pow]
  show (UInt64.ofNat k >>> c).toInt64 = _
  rw [e2]
  rfl
theorem l2i (n : Nat) : (lN n).toInt32 = nI n := by
  apply Int32.toBitVec_inj.mp
  rw [Int64.toBitVec_toInt32, wb_tb]
  show _ = BitVec.ofNat 32 n
  apply BitVec.eq_of_getLsbD_eq
  intro i hi
  rw [BitVec.getLsbD_signExtend, BitVec.getLsbD_ofNat, BitVec.getLsbD_ofNat]
  simp [hi, show i < 64 by omega]
theorem nI_neg (n : Nat) : nI n = -(nI (2 ^ 32 - n % 2 ^ 32)) := by
  apply Int32.toBitVec_inj.mp
  rw [Int32.toBitVec_neg]
  show BitVec.ofNat 32 n = -BitVec.ofNat 32 (2 ^ 32 - n % 2 ^ 32)
  apply BitVec.eq_of_toNat_eq
  rw [BitVec.toNat_neg, BitVec.toNat_ofNat, BitVec.toNat_ofNat]
  omega
theorem nI_modw (n : Nat) : nI n = nI (n % 2 ^ 32) := by
  apply Int32.toBitVec_inj.mp
  show BitVec.ofNat 32 n = BitVec.ofNat 32 (n % 2 ^ 32)
  apply BitVec.eq_of_toNat_eq
  rw [BitVec.toNat_ofNat, BitVec.toNat_ofNat]
  omega
theorem nI_ti (n : Nat) (h : n < 2 ^ 32) : (nI n).toInt = if n < 2 ^ 31 then (n : Int) else (n : Int) - 2 ^ 32 := by
  have c := BitVec.toInt_eq_toNat_cond (nI n).toBitVec
  have e : (nI n).toBitVec.toNat = n := by
    show (BitVec.ofNat 32 n).toNat = n
    rw [BitVec.toNat_ofNat]; omega
  rw [e] at c
  show (nI n).toBitVec.toInt = _
  rw [c]
  split <;> split <;> omega
/-- 31 less the place of the highest bit -/
def lz32 (k r : Nat) : Prop := (k = 0 ∧ r = 32) ∨ (r < 32 ∧ 2 ^ (31 - r) ≤ k ∧ k < 2 ^ (32 - r))
theorem nlz_R {Γ : Gm} {d : Nat} {σ : AH} (k : Nat) (hk : k < 2 ^ 32) : RI Γ d MJ6_numberOfLeadingZeros_0f7a4 [.int (nI k)] σ (fun r σ' => σ' = σ ∧ ∃ n, r = nI n ∧ lz32 k n) := by
  have h61 : ∀ s k2, s ≤ 28 → 0 < k2 → k2 < 16 → 2 ^ s * k2 ≤ k → k < 2 ^ s * (k2 + 1) → EV Γ MJ6_numberOfLeadingZeros_0f7a4 d 61 [some (.int (nI k2)), some (.int (nI (31 - s)))] [] σ (fun o σ' => ∃ r : Int32, o = .inl (some (.int r)) ∧ σ' = σ ∧ ∃ n, r = nI n ∧ lz32 k n) := by
    intro s k2 hs h0 h1 h2 h3
    have fin : ∀ t k3, t ≤ 31 → k3 < 4 → 0 < k3 → 2 ^ t * k3 ≤ k → k < 2 ^ t * (k3 + 1) → t + k3 / 2 ≤ 31 → lz32 k (31 - t - k3 / 2) := by
      intro t k3 ht g1 g2 g3 g4 g5
      refine Or.inr ⟨by omega, ?_, ?_⟩
      · rw [show 31 - (31 - t - k3 / 2) = t + k3 / 2 by omega, Nat.pow_add]
        refine Nat.le_trans (Nat.mul_le_mul_left _ ?_) g3
        match k3, g1, g2 with
        | 1, _, _ => decide
        | 2, _, _ => decide
        | 3, _, _ => decide
      · rw [show 32 - (31 - t - k3 / 2) = t + (k3 / 2 + 1) by omega, Nat.pow_add]
        refine Nat.lt_of_lt_of_le g4 (Nat.mul_le_mul_left _ ?_)
        match k3, g1, g2 with
        | 1, _, _ => decide
        | 2, _, _ => decide
        | 3, _, _ => decide
    have hpw : 2 ^ (s + 2) = 2 ^ s * 4 := Nat.pow_add 2 s 2
    refine gJ6_numberOfLeadingZeros_0f7a4_61 ⟨fun c => ?_, fun c => ?_⟩
    · have c' : k2 < 4 := (nI_ltI (by omega) (by decide)).mp c
      refine ⟨_, rfl, rfl, 31 - s - k2 / 2, ?_, fin s k2 (by omega) c' h0 h2 h3 (by omega)⟩
      rw [n_ush 1 (by omega) (by decide)]
      exact pk_sub (by omega)
    · have c' : ¬ k2 < 4 := fun z => c ((nI_ltI (by omega) (by decide)).mpr z)
      have q1 : 4 * (k2 / 4) ≤ k2 := by omega
      have q2 : k2 + 1 ≤ 4 * (k2 / 4 + 1) := by omega
      have z1 := Nat.mul_le_mul_left (2 ^ s) q1
      have z2 := Nat.mul_le_mul_left (2 ^ s) q2
      refine ⟨_, rfl, rfl, 31 - (s + 2) - k2 / 4 / 2, ?_, fin (s + 2) (k2 / 4) (by omega) (by omega) (by omega) (by rw [hpw, Nat.mul_assoc]; omega) (by rw [hpw, Nat.mul_assoc]; omega) (by omega)⟩
      rw [n_ush 2 (by omega) (by decide), n_ush 1 (by omega) (by decide)]
      have e : nI (31 - s) + (-2) = nI (31 - (s + 2)) := by
        show nI (31 - s) + -(nI 2) = _
        rw [← Int32.sub_eq_add_neg]
        exact (pk_sub (by omega)).trans (by congr 1)
      rw [e]
      exact pk_sub (by omega)
  have hsub : ∀ s t, s + t ≤ 31 → nI (31 - s) + -(nI t) = nI (31 - (s + t)) := by
    intro s t h
    rw [← Int32.sub_eq_add_neg]
    exact (pk_sub (by omega)).trans (by rw [Nat.sub_sub])
  have stp : ∀ s t k2, 2 ^ s * k2 ≤ k → k < 2 ^ s * (k2 + 1) → 2 ^ (s + t) * (k2 / 2 ^ t) ≤ k ∧ k < 2 ^ (s + t) * (k2 / 2 ^ t + 1) := by
    intro s t k2 h1 h2
    have hp := Nat.two_pow_pos t
    have q1 : 2 ^ t * (k2 / 2 ^ t) ≤ k2 := Nat.mul_div_le k2 (2 ^ t)
    have q2 : k2 + 1 ≤ 2 ^ t * (k2 / 2 ^ t + 1) := by
      have := Nat.div_add_mod k2 (2 ^ t)
      have := Nat.mod_lt k2 hp
      rw [Nat.mul_add]; omega
    rw [Nat.pow_add, Nat.mul_assoc, Nat.mul_assoc]
    exact ⟨Nat.le_trans (Nat.mul_le_mul_left _ q1) h1, Nat.lt_of_lt_of_le h2 (Nat.mul_le_mul_left _ q2)⟩
  have h48 : ∀ s k2, s ≤ 24 → 0 < k2 → k2 < 256 → 2 ^ s * k2 ≤ k → k < 2 ^ s * (k2 + 1) → EV Γ MJ6_numberOfLeadingZeros_0f7a4 d 48 [some (.int (nI k2)), some (.int (nI (31 - s)))] [] σ (fun o σ' => ∃ r : Int32, o = .inl (some (.int r)) ∧ σ' = σ ∧ ∃ n, r = nI n ∧ lz32 k n) := by
    intro s k2 hs h0 h1 h2 h3
    refine gJ6_numberOfLeadingZeros_0f7a4_48 ⟨fun c => ?_, fun c => ?_⟩
    · exact h61 s k2 (by omega) h0 ((nI_ltI (by omega) (by decide)).mp c) h2 h3
    · have c' : ¬ k2 < 16 := fun z => c ((nI_ltI (by omega) (by decide)).mpr z)
      have z := stp s 4 k2 h2 h3
      rw [n_ush 4 (by omega) (by decide), show nI (31 - s) + (-4) = nI (31 - (s + 4)) from hsub s 4 (by omega)]
      exact h61 (s + 4) (k2 / 2 ^ 4) (by omega) (by omega) (by omega) z.1 z.2
  have h33 : ∀ s k2, s ≤ 16 → 0 < k2 → k2 < 65536 → 2 ^ s * k2 ≤ k → k < 2 ^ s * (k2 + 1) → EV Γ MJ6_numberOfLeadingZeros_0f7a4 d 33 [some (.int (nI k2)), some (.int (nI (31 - s)))] [] σ (fun o σ' => ∃ r : Int32, o = .inl (some (.int r)) ∧ σ' = σ ∧ ∃ n, r = nI n ∧ lz32 k n) := by
    intro s k2 hs h0 h1 h2 h3
    refine gJ6_numberOfLeadingZeros_0f7a4_33 ⟨fun c => ?_, fun c => ?_⟩
    · exact h48 s k2 (by omega) h0 ((nI_ltI (by omega) (by decide)).mp c) h2 h3
    · have c' : ¬ k2 < 256 := fun z => c ((nI_ltI (by omega) (by decide)).mpr z)
      have z := stp s 8 k2 h2 h3
      rw [n_ush 8 (by omega) (by decide), show nI (31 - s) + (-8) = nI (31 - (s + 8)) from hsub s 8 (by omega)]
      exact h48 (s + 8) (k2 / 2 ^ 8) (by omega) (by omega) (by omega) z.1 z.2
  refine eJ6_numberOfLeadingZeros_0f7a4 ⟨fun c => ?_, fun c => ?_⟩
  · rw [Int32.lt_iff_toInt_lt, nI_ti k hk] at c
    have c' : 0 < k ∧ k < 2 ^ 31 := by
      have : (0 : Int32).toInt = 0 := by decide
      split at c <;> omega
    refine ⟨fun c2 => ?_, fun c2 => ?_⟩
    · exact h33 0 k (by omega) c'.1 ((nI_ltI (by omega) (by decide)).mp c2) (by omega) (by omega)
    · have c3 : ¬ k < 65536 := fun z => c2 ((nI_ltI (by omega) (by decide)).mpr z)
      have z := stp 0 16 k (by omega) (by omega)
      rw [n_ush 16 hk (by decide), show (31 : Int32) + (-16) = nI (31 - 16) by decide]
      exact h33 16 (k / 2 ^ 16) (by omega) (by omega) (by omega) (by simpa using z.1) (by simpa using z.2)
  · rw [Int32.lt_iff_toInt_lt, nI_ti k hk] at c
    have z0 : (0 : Int32).toInt = 0 := by decide
    refine ⟨fun c2 => ⟨_, rfl, rfl, 0, rfl, ?_⟩, fun c2 => ⟨_, rfl, rfl, 32, rfl, Or.inl ⟨?_, rfl⟩⟩⟩
    · have : k ≠ 0 := fun z => c2 (by rw [z]; rfl)
      refine Or.inr ⟨by omega, ?_, by omega⟩
      split at c <;> omega
    · have e := congrArg Int32.toInt c2
      rw [nI_ti k hk, z0] at e
      split at e <;> omega
def lz64 (k r : Nat) : Prop := r < 64 ∧ 2 ^ (63 - r) ≤ k ∧ k < 2 ^ (64 - r)
theorem nlz64_R {Γ : Gm} {d : Nat} {σ : AH} (k : Nat) (h0 : 0 < k) (hk : k < 2 ^ 64) (hd : 1 ≤ d) : RI Γ d MJ13_numberOfLeadingZeros_95d88 [.long (lN k)] σ (fun r σ' => σ' = σ ∧ ∃ n, r = nI n ∧ lz64 k n) := by
  have e1 : (Int64.toInt32 ((Int64.toUInt64 (lN k) >>> ((Int32.toInt64 32).toUInt64 &&& Int64.toUInt64 63)).toInt64)) = nI (k / 2 ^ 32) := by
    rw [l_ush 32 hk (by decide), l2i]
  refine eJ13_numberOfLeadingZeros_95d88 ?_
  rw [e1]
  refine ⟨fun c => ?_, fun c => ?_⟩
  · refine CI.of (d2 := 0) (nlz_R (k / 2 ^ 32) (by omega)) (by omega) (fun r σ1 hw hp => ?_)
    obtain ⟨rfl, n, rfl, hn⟩ := hp
    refine ⟨_, rfl, rfl, n, rfl, ?_⟩
    rcases hn with ⟨z, _⟩ | ⟨h1, h2, h3⟩
    · exact absurd (by rw [z]; rfl) c
    · have p1 : 2 ^ (63 - n) = 2 ^ (31 - n) * 2 ^ 32 := by rw [← Nat.pow_add]; congr 1; omega
      have p2 : 2 ^ (64 - n) = 2 ^ (32 - n) * 2 ^ 32 := by rw [← Nat.pow_add]; congr 1; omega
      exact ⟨by omega, by rw [p1]; omega, by rw [p2]; omega⟩
  · have ck : k < 2 ^ 32 := by
      have e := congrArg Int32.toInt c
      rw [nI_ti _ (by omega), show (0 : Int32).toInt = 0 by decide] at e
      split at e <;> omega
    rw [l2i]
    refine CI.of (d2 := 0) (nlz_R k ck) (by omega) (fun r σ1 hw hp => ?_)
    obtain ⟨rfl, n, rfl, hn⟩ := hp
    refine ⟨_, rfl, rfl, 32 + n, nI_add 32 n, ?_⟩
    rcases hn with ⟨z, _⟩ | ⟨h1, h2, h3⟩
    · omega
    · have p1 : 63 - (32 + n) = 31 - n := by omega
      have p2 : 64 - (32 + n) = 32 - n := by omega
      exact ⟨by omega, by rw [p1]; exact h2, by rw [p2]; exact h3⟩
def tz1 (v : Int32) : Int32 × Int32 := if v ≤ 65536 then (v, 1) else ((v.toUInt32 >>> (Int32.toUInt32 16 &&& Int32.toUInt32 31)).toInt32, 1 + 16)
def tz2 (p : Int32 × Int32) : Int32 × Int32 := if p.1 ≤ 256 then p else ((p.1.toUInt32 >>> (Int32.toUInt32 8 &&& Int32.toUInt32 31)).toInt32, p.2 + 8)
def tz3 (p : Int32 × Int32) : Int32 × Int32 := if p.1 ≤ 16 then p else ((p.1.toUInt32 >>> (Int32.toUInt32 4 &&& Int32.toUInt32 31)).toInt32, p.2 + 4)
def tz4 (p : Int32 × Int32) : Int32 := if p.1 ≤ 4 then p.2 + (p.1.toUInt32 >>> (Int32.toUInt32 1 &&& Int32.toUInt32 31)).toInt32 else (p.2 + 2) + ((((p.1.toUInt32 >>> (Int32.toUInt32 2 &&& Int32.toUInt32 31)).toInt32).toUInt32 >>> (Int32.toUInt32 1 &&& Int32.toUInt32 31)).toInt32)
def tzF (x : Int32) : Int32 := if 0 < x then tz4 (tz3 (tz2 (tz1 x))) else x &&& 32
theorem tzF_all : ∀ t, t < 33 → tzF (nI (2 ^ t - 1)) = nI t := by decide +kernel
theorem ntzF_R {Γ : Gm} {d : Nat} {σ : AH} (v : Int32) : RI Γ d MJ6_numberOfTrailingZeros_0f7a4 [.int v] σ (fun r σ' => σ' = σ ∧ r = tzF ((v ^^^ (-1)) &&& (v - 1))) := by
  have h62 : ∀ w n, tz4 (w, n) = tzF ((v ^^^ (-1)) &&& (v - 1)) → EV Γ MJ6_numberOfTrailingZeros_0f7a4 d 62 [some (.int w), some (.int n)] [] σ (fun o σ' => ∃ r : Int32, o = .inl (some (.int r)) ∧ σ' = σ ∧ r = tzF ((v ^^^ (-1)) &&& (v - 1))) := by
    intro w n h
    refine gJ6_numberOfTrailingZeros_0f7a4_62 ⟨fun c => ⟨_, rfl, rfl, ?_⟩, fun c => ⟨_, rfl, rfl, ?_⟩⟩
    · rw [← h]; exact (if_pos c).symm
    · rw [← h]; exact (if_neg c).symm
  have h49 : ∀ w n, tz4 (tz3 (w, n)) = tzF ((v ^^^ (-1)) &&& (v - 1)) → EV Γ MJ6_numberOfTrailingZeros_0f7a4 d 49 [some (.int w), some (.int n)] [] σ (fun o σ' => ∃ r : Int32, o = .inl (some (.int r)) ∧ σ' = σ ∧ r = tzF ((v ^^^ (-1)) &&& (v - 1))) := by
    intro w n h
    refine gJ6_numberOfTrailingZeros_0f7a4_49 ⟨fun c => h62 _ _ ?_, fun c => h62 _ _ ?_⟩
    · rw [← h]; exact congrArg tz4 (if_pos c).symm
    · rw [← h]; exact congrArg tz4 (if_neg c).symm
  have h34 : ∀ w n, tz4 (tz3 (tz2 (w, n))) = tzF ((v ^^^ (-1)) &&& (v - 1)) → EV Γ MJ6_numberOfTrailingZeros_0f7a4 d 34 [some (.int w), some (.int n)] [] σ (fun o σ' => ∃ r : Int32, o = .inl (some (.int r)) ∧ σ' = σ ∧ r = tzF ((v ^^^ (-1)) &&& (v - 1))) := by
    intro w n h
    refine gJ6_numberOfTrailingZeros_0f7a4_34 ⟨fun c => h49 _ _ ?_, fun c => h49 _ _ ?_⟩
    · rw [← h]; exact congrArg (fun z => tz4 (tz3 z)) (if_pos c).symm
    · rw [← h]; exact congrArg (fun z => tz4 (tz3 z)) (if_neg c).symm
  refine eJ6_numberOfTrailingZeros_0f7a4 ⟨fun c => ⟨fun c2 => h34 _ _ ?_, fun c2 => h34 _ _ ?_⟩, fun c => ⟨_, rfl, rfl, (if_neg c).symm⟩⟩
  · exact (congrArg (fun z => tz4 (tz3 (tz2 z))) (if_pos c2).symm).trans (if_pos c).symm
  · exact (congrArg (fun z => tz4 (tz3 (tz2 z))) (if_neg c2).symm).trans (if_pos c).symm
/-- the place of the lowest bit -/
def lowbit (k t : Nat) : Prop := k.testBit t = true ∧ ∀ i, i < t → k.testBit i = false
theorem low_form {k t : Nat} (h : lowbit k t) : ∃ q, k = 2 ^ (t + 1) * q + 2 ^ t := by
  refine ⟨k / 2 ^ (t + 1), ?_⟩
  have e := Nat.div_add_mod k (2 ^ (t + 1))
  have m : k % 2 ^ (t + 1) = 2 ^ t := by
    apply Nat.eq_of_testBit_eq
    intro i
    rw [Nat.testBit_mod_two_pow, Nat.testBit_two_pow]
    rcases Nat.lt_trichotomy i t with z | z | z
    · rw [h.2 i z]; simp; omega
    · subst z; rw [h.1]; simp
    · rw [decide_eq_false (by omega), decide_eq_false (by omega)]; rfl
  omega
theorem low_of_form {q t : Nat} : lowbit (2 ^ (t + 1) * q + 2 ^ t) t := by
  have hp : 2 ^ t < 2 ^ (t + 1) := by rw [Nat.pow_succ]; have := Nat.two_pow_pos t; omega
  refine ⟨?_, fun i hi => ?_⟩
  · rw [Nat.testBit_two_pow_mul_add _ hp, if_pos (by omega), Nat.testBit_two_pow]; simp
  · rw [Nat.testBit_two_pow_mul_add _ hp, if_pos (by omega), Nat.testBit_two_pow]; simp; omega
theorem tz_low {k t : Nat} (hk : k < 2 ^ 32) (h : lowbit k t) : (nI k ^^^ (-1)) &&& (nI k - 1) = nI (2 ^ t - 1) := by
  obtain ⟨q, rfl⟩ := low_form h
  have ht : 2 ^ t ≤ 2 ^ (t + 1) * q + 2 ^ t := by omega
  have hp := Nat.two_pow_pos t
  have e1 : nI (2 ^ (t + 1) * q + 2 ^ t) - 1 = nI (2 ^ (t + 1) * q + (2 ^ t - 1)) := (pk_sub (b := 1) (by omega)).trans (by congr 1; omega)
  rw [e1, show (-1 : Int32) = nI (2 ^ 32 - 1) by decide, nx_xor, nx_and]
  apply congrArg nI
  apply Nat.eq_of_testBit_eq
  intro i
  have hq : 2 ^ t - 1 < 2 ^ (t + 1) := by rw [Nat.pow_succ]; omega
  have hq2 : 2 ^ t < 2 ^ (t + 1) := by rw [Nat.pow_succ]; omega
  rw [Nat.testBit_and, Nat.testBit_xor, Nat.testBit_two_pow_sub_one, Nat.testBit_two_pow_sub_one, Nat.testBit_two_pow_mul_add _ hq, Nat.testBit_two_pow_mul_add _ hq2, Nat.testBit_two_pow_sub_one, Nat.testBit_two_pow]
  have ht32 : t < 32 := by
    rcases Nat.lt_or_ge t 32 with z | z
    · exact z
    · have := Nat.pow_le_pow_right (show 0 < 2 by decide) z; omega
  by_cases c : i < t + 1
  · rw [if_pos c, if_pos c]
    by_cases c2 : i < t
    · simp [c2, show ¬ t = i by omega, show i < 32 by omega]
    · simp [show i = t by omega]
  · rw [if_neg c, if_neg c, decide_eq_false (show ¬ i < t by omega)]
    by_cases c3 : i < 32
    · simp [c3]
    · have : q.testBit (i - (t + 1)) = false := by
        apply Nat.testBit_lt_two_pow
        have hk' : 2 ^ (t + 1) * q < 2 ^ 32 := by omega
        have h2 : 2 ^ 32 ≤ 2 ^ (t + 1) * 2 ^ (i - (t + 1)) := by
          rw [← Nat.pow_add]; exact Nat.pow_le_pow_right (by decide) (by omega)
        exact Nat.lt_of_mul_lt_mul_left (Nat.lt_of_lt_of_le hk' h2)
      simp [this]
theorem ntz64_R {Γ : Gm} {d : Nat} {σ : AH} (k t : Nat) (hk : k < 2 ^ 64) (h : lowbit k t) (hd : 1 ≤ d) : RI Γ d MJ13_numberOfTrailingZeros_95d88 [.long (lN k)] σ (fun r σ' => σ' = σ ∧ r = nI t) := by
  have e1 : (Int64.toInt32 ((Int64.toUInt64 (lN k) >>> ((Int32.toInt64 32).toUInt64 &&& Int64.toUInt64 63)).toInt64)) = nI (k / 2 ^ 32) := by
    rw [l_ush 32 hk (by decide), l2i]
  obtain ⟨q, hq⟩ := low_form h
  have ht64 : t < 64 := by
    rcases Nat.lt_or_ge t 64 with z | z
    · exact z
    · have := Nat.pow_le_pow_right (show 0 < 2 by decide) z; omega
  refine eJ13_numberOfTrailingZeros_95d88 ?_
  rw [e1, l2i]
  have ez : ∀ n, n < 2 ^ 32 → (nI n = 0 ↔ n = 0) := by
    intro n hn
    refine ⟨fun c => ?_, fun c => by rw [c]; rfl⟩
    have e := congrArg Int32.toInt c
    rw [nI_ti _ hn, show (0 : Int32).toInt = 0 by decide] at e
    split at e <;> omega
  rw [nI_modw k]
  have tb : ∀ i, (k % 2 ^ 32).testBit i = (decide (i < 32) && k.testBit i) := fun i => Nat.testBit_mod_two_pow _ _ _
  refine ⟨fun c => ?_, fun c => ?_⟩
  · have ht : t < 32 := by
      rcases Nat.lt_or_ge t 32 with z | z
      · exact z
      · exfalso
        apply c
        rw [ez _ (by omega)]
        apply Nat.eq_of_testBit_eq
        intro i
        rw [tb, Nat.zero_testBit]
        by_cases hi : i < 32
        · rw [h.2 i (by omega)]; simp
        · simp [hi]
    refine CI.of (d2 := 0) (ntzF_R _) (by omega) (fun r σ1 hw hp => ?_)
    obtain ⟨rfl, rfl⟩ := hp
    refine ⟨_, rfl, rfl, ?_⟩
    rw [tz_low (t := t) (by omega) ⟨by rw [tb, h.1]; simp [ht], fun i hi => by rw [tb, h.2 i hi]; simp⟩]
    exact tzF_all t (by omega)
  · have hz : k % 2 ^ 32 = 0 := (ez _ (by omega)).mp c
    have ht : 32 ≤ t := by
      rcases Nat.lt_or_ge t 32 with z | z
      · exfalso
        have := tb t
        rw [hz, h.1, Nat.zero_testBit] at this
        simp [z] at this
      · exact z
    have td : ∀ i, (k / 2 ^ 32).testBit i = k.testBit (32 + i) := fun i => by rw [Nat.testBit_div_two_pow, Nat.add_comm]
    refine CI.of (d2 := 0) (ntzF_R _) (by omega) (fun r σ1 hw hp => ?_)
    obtain ⟨rfl, rfl⟩ := hp
    refine ⟨_, rfl, rfl, ?_⟩
    rw [tz_low (t := t - 32) (by omega) ⟨by rw [td, show 32 + (t - 32) = t by omega, h.1], fun i hi => by rw [td, h.2 _ (by omega)]⟩, tzF_all (t - 32) (by omega)]
    exact (nI_add 32 (t - 32)).trans (by congr 1; omega)

