/-! PURE ROWS: bit counts. -/
theorem ep_bit (c s k : Nat) : (k * c + s) = k * c + s := rfl
def mkL (m : Nat) : Nat → Nat
  | 0 => 0
  | n + 1 => 256 * mkL m n + m
theorem and_lane (q r M m : Nat) (hr : r < 256) (hm : m < 256) : (256 * q + r) &&& (256 * M + m) = 256 * (q &&& M) + (r &&& m) := by
  have h : r &&& m < 2 ^ 8 := Nat.and_lt_two_pow _ hm
  apply Nat.eq_of_testBit_eq
  intro i
  rw [Nat.testBit_and, show (256 : Nat) = 2 ^ 8 from rfl, Nat.testBit_two_pow_mul_add _ hr, Nat.testBit_two_pow_mul_add _ hm, Nat.testBit_two_pow_mul_add _ h]
  split
  · rw [Nat.testBit_and]
  · rw [Nat.testBit_and]
def cA (n X : Nat) : Nat := X - (X / 2 &&& mkL 85 n)
def cB (n Y : Nat) : Nat := (Y &&& mkL 51 n) + (Y / 4 &&& mkL 51 n)
def cC (n Z : Nat) : Nat := (Z + Z / 16) &&& mkL 15 n
def pA (r : Nat) : Nat := r - (r / 2 &&& 85)
def pB (r : Nat) : Nat := (r &&& 51) + (r / 4 &&& 51)
def pC (r : Nat) : Nat := (r + r / 16) &&& 15
def pp8 (r : Nat) : Nat := fb_ct (fun i => r.testBit i) 8
theorem c2_55 : ∀ c, c < 2 → ∀ s, s < 128 → (128 * c + s) &&& 85 = s &&& 85 := by decide +kernel
theorem c4_33 : ∀ c, c < 4 → ∀ s, s < 64 → (64 * c + s) &&& 51 = s &&& 51 := by decide +kernel
theorem c5_0f : ∀ c, c < 5 → ∀ s, s < 73 → (16 * c + s) &&& 15 = s &&& 15 := by decide +kernel
theorem pAB : ∀ r, r < 256 → r / 2 &&& 85 ≤ r ∧ pA r < 256 ∧ pB (pA r) ≤ 68 ∧ pB (pA r) % 16 ≤ 4 ∧ pB (pA r) / 16 ≤ 4 ∧ pC (pB (pA r)) = pp8 r := by decide +kernel
theorem cA_lane (n q r : Nat) (hr : r < 256) : cA (n + 1) (256 * q + r) = 256 * cA n q + pA r := by
  have e : (256 * q + r) / 2 = 256 * (q / 2) + (128 * (q % 2) + r / 2) := by omega
  have h1 := (pAB r hr).1
  have h2 : q / 2 &&& mkL 85 n ≤ q := Nat.le_trans Nat.and_le_left (Nat.div_le_self _ _)
  unfold cA pA
  rw [show mkL 85 (n + 1) = 256 * mkL 85 n + 85 from rfl, e, and_lane _ _ _ _ (by omega) (by omega), c2_55 _ (by omega) _ (by omega)]
  omega
theorem cB_lane (n q r : Nat) (hr : r < 256) : cB (n + 1) (256 * q + r) = 256 * cB n q + pB r := by
  have e : (256 * q + r) / 4 = 256 * (q / 4) + (64 * (q % 4) + r / 4) := by omega
  unfold cB pB
  rw [show mkL 51 (n + 1) = 256 * mkL 51 n + 51 from rfl, e, and_lane q r _ _ hr (by omega), and_lane (q / 4) (64 * (q % 4) + r / 4) _ _ (by omega) (by omega), c4_33 _ (by omega) _ (by omega)]
  omega
theorem cC_lane (n q r : Nat) (hr : r ≤ 68) (h4 : r / 16 ≤ 4) (hq : q % 16 ≤ 4) : cC (n + 1) (256 * q + r) = 256 * cC n q + pC r := by
  have e : (256 * q + r) + (256 * q + r) / 16 = 256 * (q + q / 16) + (16 * (q % 16) + (r + r / 16)) := by omega
  unfold cC pC
  rw [show mkL 15 (n + 1) = 256 * mkL 15 n + 15 from rfl, e, and_lane _ _ _ _ (by omega) (by omega), c5_0f _ (by omega) _ (by omega)]
def cT : Nat → Nat → Nat
  | 0, _ => 0
  | n + 1, X => 256 * cT n (X / 256) + pp8 (X % 256)
theorem cABC : ∀ n X, X < 256 ^ n → cC n (cB n (cA n X)) = cT n X ∧ cB n (cA n X) % 16 ≤ 4 := by
  intro n
  induction n with
  | zero => intro X h; have : X = 0 := by simpa using h
            subst this; decide
  | succ n ih =>
    intro X h
    have hx : X = 256 * (X / 256) + X % 256 := (Nat.div_add_mod X 256).symm
    have hr := Nat.mod_lt X (show 0 < 256 by decide)
    have hq : X / 256 < 256 ^ n := by rw [Nat.pow_succ] at h; omega
    generalize X / 256 = q at hx hq
    generalize X % 256 = r at hx hr
    subst hx
    obtain ⟨i1, i2⟩ := ih q hq
    have P := pAB r hr
    have e2 : cB (n + 1) (cA (n + 1) (256 * q + r)) = 256 * cB n (cA n q) + pB (pA r) := by rw [cA_lane n q r hr, cB_lane n _ _ P.2.1]
    refine ⟨?_, ?_⟩
    · rw [e2, cC_lane n _ _ P.2.2.1 P.2.2.2.2.1 i2, i1, P.2.2.2.2.2]
      show _ = 256 * cT n ((256 * q + r) / 256) + pp8 ((256 * q + r) % 256)
      rw [show (256 * q + r) / 256 = q by omega, show (256 * q + r) % 256 = r by omega]
    · rw [e2]; omega
theorem pp8_le (r : Nat) : pp8 r ≤ 8 := fb_ct_le _ 8
def popN (n k : Nat) : Nat := fb_ct (fun i => k.testBit i) n
theorem popN_split (n k : Nat) : popN (8 + n) k = pp8 (k % 256) + popN n (k / 256) := by
  unfold popN pp8
  rw [fb_ct_split]
  congr 1
  · apply fb_ct_cong
    intro i hi
    show k.testBit i = (k % 2 ^ 8).testBit i
    rw [Nat.testBit_mod_two_pow]; simp [hi]
  · apply fb_ct_cong
    intro i hi
    show k.testBit (8 + i) = (k / 2 ^ 8).testBit i
    rw [Nat.testBit_div_two_pow, Nat.add_comm]
theorem popN0 (k : Nat) : popN 0 k = 0 := rfl
def sA (x : Int64) : Int64 := x - ((Int64.toUInt64 x >>> ((Int32.toInt64 1).toUInt64 &&& Int64.toUInt64 63)).toInt64 &&& 6148914691236517205)
def sB (y : Int64) : Int64 := (y &&& 3689348814741910323) + ((Int64.toUInt64 y >>> ((Int32.toInt64 2).toUInt64 &&& Int64.toUInt64 63)).toInt64 &&& 3689348814741910323)
def sC (z : Int64) : Int64 := (z + (Int64.toUInt64 z >>> ((Int32.toInt64 4).toUInt64 &&& Int64.toUInt64 63)).toInt64) &&& 1085102592571150095
def sD (c : Int32) (z : Int64) : Int64 := z + (Int64.toUInt64 z >>> ((Int32.toInt64 c).toUInt64 &&& Int64.toUInt64 63)).toInt64
theorem tA8 : mkL 85 8 = 6148914691236517205 ∧ mkL 51 8 = 3689348814741910323 ∧ mkL 15 8 = 1085102592571150095 := by decide
theorem sA_N {k : Nat} (hk : k < 2 ^ 64) : sA (lN k) = lN (cA 8 k) := by
  unfold sA cA
  rw [l_ush 1 hk (by decide), show (6148914691236517205 : Int64) = lN 6148914691236517205 from rfl, fb_andL, lN_sub (Nat.le_trans Nat.and_le_left (Nat.div_le_self _ _)), tA8.1]
theorem sB_N {k : Nat} (hk : k < 2 ^ 64) : sB (lN k) = lN (cB 8 k) := by
  unfold sB cB
  rw [l_ush 2 hk (by decide), show (3689348814741910323 : Int64) = lN 3689348814741910323 from rfl, fb_andL, fb_andL, lN_add, tA8.2.1]
theorem sC_N {k : Nat} (hk : k < 2 ^ 64) : sC (lN k) = lN (cC 8 k) := by
  unfold sC cC
  rw [l_ush 4 hk (by decide), show (1085102592571150095 : Int64) = lN 1085102592571150095 from rfl, lN_add, fb_andL, tA8.2.2]
theorem sD_N {k : Nat} (j : Nat) {c : Int32} (hc : ((Int32.toInt64 c).toUInt64 &&& Int64.toUInt64 63).toNat % 64 = j) (hk : k < 2 ^ 64) : sD c (lN k) = lN (k + k / 2 ^ j) := by
  unfold sD
  rw [l_ush j hk hc, lN_add]
theorem cA_le (n X : Nat) : cA n X ≤ X := Nat.sub_le _ _
theorem cB8_lt (Y : Nat) : cB 8 Y < 2 ^ 64 := by
  unfold cB
  have h1 : Y &&& mkL 51 8 ≤ mkL 51 8 := Nat.and_le_right
  have h2 : Y / 4 &&& mkL 51 8 ≤ mkL 51 8 := Nat.and_le_right
  rw [tA8.2.1] at *
  omega
theorem cT8 (k : Nat) (hk : k < 2 ^ 64) : ∃ a b c d e f g h : Nat, a ≤ 8 ∧ b ≤ 8 ∧ c ≤ 8 ∧ d ≤ 8 ∧ e ≤ 8 ∧ f ≤ 8 ∧ g ≤ 8 ∧ h ≤ 8 ∧ cT 8 k = 256 * (256 * (256 * (256 * (256 * (256 * (256 * (256 * 0 + h) + g) + f) + e) + d) + c) + b) + a ∧ popN 64 k = a + (b + (c + (d + (e + (f + (g + (h + 0))))))) := by
  refine ⟨_, _, _, _, _, _, _, _, pp8_le _, pp8_le _, pp8_le _, pp8_le _, pp8_le _, pp8_le _, pp8_le _, pp8_le _, rfl, ?_⟩
  rw [show (64 : Nat) = 8 + 56 from rfl, popN_split, show (56 : Nat) = 8 + 48 from rfl, popN_split, show (48 : Nat) = 8 + 40 from rfl, popN_split, show (40 : Nat) = 8 + 32 from rfl, popN_split, show (32 : Nat) = 8 + 24 from rfl, popN_split, show (24 : Nat) = 8 + 16 from rfl, popN_split, show (16 : Nat) = 8 + 8 from rfl, popN_split, popN_split 0, popN0]
theorem bits64 (k : Nat) (hk : k < 2 ^ 64) : (Int64.toInt32 (sD 32 (sD 16 (sD 8 (sC (sB (sA (lN k)))))))) &&& 127 = nI (popN 64 k) := by
  have h0 : cA 8 k < 2 ^ 64 := Nat.lt_of_le_of_lt (cA_le 8 k) hk
  rw [sA_N hk, sB_N h0, sC_N (cB8_lt _), (cABC 8 k hk).1]
  obtain ⟨a, b, c, d, e, f, g, h, ha, hb, hc, hd, he, hf, hg, hh, e1, e2⟩ := cT8 k hk
  have t0 : cT 8 k < 2 ^ 60 := by rw [e1]; omega
  have d1 : cT 8 k / 2 ^ 8 = 256 * (256 * (256 * (256 * (256 * (256 * h + g) + f) + e) + d) + c) + b := by rw [e1]; omega
  rw [sD_N 8 (by decide) (by omega)]
  have u1 : cT 8 k + cT 8 k / 2 ^ 8 = 256 * (256 * (256 * (256 * (256 * (256 * (256 * h + (g + h)) + (f + g)) + (e + f)) + (d + e)) + (c + d)) + (b + c)) + (a + b) := by rw [d1, e1]; omega
  rw [u1]
  clear u1 d1 t0 e1
  have d2 : (256 * (256 * (256 * (256 * (256 * (256 * (256 * h + (g + h)) + (f + g)) + (e + f)) + (d + e)) + (c + d)) + (b + c)) + (a + b)) / 2 ^ 16 = 256 * (256 * (256 * (256 * (256 * h + (g + h)) + (f + g)) + (e + f)) + (d + e)) + (c + d) := by omega
  rw [sD_N 16 (by decide) (by omega), d2]
  have u2 : 256 * (256 * (256 * (256 * (256 * (256 * (256 * h + (g + h)) + (f + g)) + (e + f)) + (d + e)) + (c + d)) + (b + c)) + (a + b) + (256 * (256 * (256 * (256 * (256 * h + (g + h)) + (f + g)) + (e + f)) + (d + e)) + (c + d)) = 4294967296 * (256 * (256 * (256 * h + (g + h)) + (f + g + h)) + (e + f + (g + h))) + (256 * (256 * (256 * (d + e + (f + g)) + (c + d + (e + f))) + (b + c + (d + e))) + (a + b + (c + d))) := by omega
  rw [u2]
  clear u2 d2
  have d3 : (4294967296 * (256 * (256 * (256 * h + (g + h)) + (f + g + h)) + (e + f + (g + h))) + (256 * (256 * (256 * (d + e + (f + g)) + (c + d + (e + f))) + (b + c + (d + e))) + (a + b + (c + d)))) / 2 ^ 32 = 256 * (256 * (256 * h + (g + h)) + (f + g + h)) + (e + f + (g + h)) := by omega
  rw [sD_N 32 (by decide) (by omega), d3, l2i, show (127 : Int32) = nI (2 ^ 7 - 1) by decide, fa_mask]
  apply congrArg nI
  rw [e2]
  omega
theorem bitc64_R {Γ : Gm} {d : Nat} {σ : AH} (k : Nat) (hk : k < 2 ^ 64) : RI Γ d MJ13_bitCount_95d88 [.long (lN k)] σ (fun r σ' => σ' = σ ∧ r = nI (popN 64 k)) := by
  refine eJ13_bitCount_95d88 ⟨_, rfl, rfl, ?_⟩
  exact bits64 k hk

