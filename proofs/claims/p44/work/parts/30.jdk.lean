/-! ROWS: int bit count; fill, copyOf. -/
def iA (x : Int32) : Int32 := x - ((x.toUInt32 >>> (Int32.toUInt32 1 &&& Int32.toUInt32 31)).toInt32 &&& 1431655765)
def iB (y : Int32) : Int32 := (y &&& 858993459) + ((y.toUInt32 >>> (Int32.toUInt32 2 &&& Int32.toUInt32 31)).toInt32 &&& 858993459)
def iC (z : Int32) : Int32 := (z + (z.toUInt32 >>> (Int32.toUInt32 4 &&& Int32.toUInt32 31)).toInt32) &&& 252645135
def iD (c : Int32) (z : Int32) : Int32 := z + (z.toUInt32 >>> (Int32.toUInt32 c &&& Int32.toUInt32 31)).toInt32
theorem tA4 : mkL 85 4 = 1431655765 ∧ mkL 51 4 = 858993459 ∧ mkL 15 4 = 252645135 := by decide
theorem iA_N {k : Nat} (hk : k < 2 ^ 32) : iA (nI k) = nI (cA 4 k) := by
  unfold iA cA
  rw [n_ush 1 hk (by decide), show (1431655765 : Int32) = nI 1431655765 from rfl, fa_and, pk_sub (Nat.le_trans Nat.and_le_left (Nat.div_le_self _ _)), tA4.1]
theorem iB_N {k : Nat} (hk : k < 2 ^ 32) : iB (nI k) = nI (cB 4 k) := by
  unfold iB cB
  rw [n_ush 2 hk (by decide), show (858993459 : Int32) = nI 858993459 from rfl, fa_and, fa_and, nI_add, tA4.2.1]
theorem iC_N {k : Nat} (hk : k < 2 ^ 32) : iC (nI k) = nI (cC 4 k) := by
  unfold iC cC
  rw [n_ush 4 hk (by decide), show (252645135 : Int32) = nI 252645135 from rfl, nI_add, fa_and, tA4.2.2]
theorem iD_N {k : Nat} (j : Nat) {c : Int32} (hc : (Int32.toUInt32 c &&& Int32.toUInt32 31).toNat % 32 = j) (hk : k < 2 ^ 32) : iD c (nI k) = nI (k + k / 2 ^ j) := by
  unfold iD
  rw [n_ush j hk hc, nI_add]
theorem cB4_lt (Y : Nat) : cB 4 Y < 2 ^ 32 := by
  unfold cB
  have h1 : Y &&& mkL 51 4 ≤ mkL 51 4 := Nat.and_le_right
  have h2 : Y / 4 &&& mkL 51 4 ≤ mkL 51 4 := Nat.and_le_right
  rw [tA4.2.1] at *
  omega
theorem cT4 (k : Nat) : ∃ a b c d : Nat, a ≤ 8 ∧ b ≤ 8 ∧ c ≤ 8 ∧ d ≤ 8 ∧ cT 4 k = 256 * (256 * (256 * (256 * 0 + d) + c) + b) + a ∧ popN 32 k = a + (b + (c + (d + 0))) := by
  refine ⟨_, _, _, _, pp8_le _, pp8_le _, pp8_le _, pp8_le _, rfl, ?_⟩
  rw [show (32 : Nat) = 8 + 24 from rfl, popN_split, show (24 : Nat) = 8 + 16 from rfl, popN_split, show (16 : Nat) = 8 + 8 from rfl, popN_split, popN_split 0, popN0]
theorem bits32 (k : Nat) (hk : k < 2 ^ 32) : (iD 16 (iD 8 (iC (iB (iA (nI k)))))) &&& 63 = nI (popN 32 k) := by
  have h0 : cA 4 k < 2 ^ 32 := Nat.lt_of_le_of_lt (cA_le 4 k) hk
  rw [iA_N hk, iB_N h0, iC_N (cB4_lt _), (cABC 4 k hk).1]
  obtain ⟨a, b, c, d, ha, hb, hc, hd, e1, e2⟩ := cT4 k
  rw [e1, iD_N 8 (by decide) (by omega), iD_N 16 (by decide) (by omega), show (63 : Int32) = nI (2 ^ 6 - 1) by decide, fa_mask]
  apply congrArg nI
  rw [e2]
  have d1 : (256 * (256 * (256 * (256 * 0 + d) + c) + b) + a) / 2 ^ 8 = 256 * (256 * d + c) + b := by omega
  rw [d1]
  have d2 : (256 * (256 * (256 * (256 * 0 + d) + c) + b) + a + (256 * (256 * d + c) + b)) / 2 ^ 16 = 256 * d + (c + d) := by omega
  rw [d2]
  omega
theorem bitc32_R {Γ : Gm} {d : Nat} {σ : AH} (k : Nat) (hk : k < 2 ^ 32) : RI Γ d MJ6_bitCount_0f7a4 [.int (nI k)] σ (fun r σ' => σ' = σ ∧ r = nI (popN 32 k)) := by
  refine eJ6_bitCount_0f7a4 ⟨_, rfl, rfl, ?_⟩
  exact bits32 k hk
/-- first places by f, the rest by g -/
def fl {α : Type} (f g : Nat → α) (k : Nat) : Nat → α := fun i => if i < k then f i else g i
theorem fl_0 {α : Type} (f g : Nat → α) : fl f g 0 = g := funext fun _ => if_neg (Nat.not_lt_zero _)
theorem fl_in {α : Type} {f g : Nat → α} {k i : Nat} (h : i < k) : fl f g k i = f i := if_pos h
theorem fl_out {α : Type} {f g : Nat → α} {k i : Nat} (h : k ≤ i) : fl f g k i = g i := if_neg (by omega)
theorem fl_succ {α : Type} (f g : Nat → α) (k : Nat) : up (fl f g k) k (f k) = fl f g (k + 1) := by
  funext i
  unfold up fl
  by_cases c : i = k
  · rw [if_pos c, if_pos (by omega), c]
  · rw [if_neg c]
    by_cases c2 : i < k
    · rw [if_pos c2, if_pos (by omega)]
    · rw [if_neg c2, if_neg (by omega)]
theorem up_up {α : Type} (f : Nat → α) (k : Nat) (v w : α) : up (up f k v) k w = up f k w := by
  funext i
  unfold up
  by_cases c : i = k
  · rw [if_pos c, if_pos c]
  · rw [if_neg c, if_neg c, if_neg c]
theorem up_self {α : Type} (f : Nat → α) (k : Nat) : up f k (f k) = f := by
  funext i
  unfold up
  by_cases c : i = k
  · rw [if_pos c, c]
  · rw [if_neg c]
theorem rowJ_rowJ (σ : AH) (a : Nat) (f g : Nat → Int64) : rowJ (rowJ σ a f) a g = rowJ σ a g := by
  unfold rowJ
  rw [show gj (hc σ, hv σ, hs σ, gi σ, up (gj σ) a f, gr σ, gd σ) = up (gj σ) a f from rfl, up_up]
  rfl
theorem rowI_rowI (σ : AH) (a : Nat) (f g : Nat → Int32) : rowI (rowI σ a f) a g = rowI σ a g := by
  unfold rowI
  rw [show gi (hc σ, hv σ, hs σ, up (gi σ) a f, gj σ, gr σ, gd σ) = up (gi σ) a f from rfl, up_up]
  rfl
theorem rowJ_self (σ : AH) (a : Nat) : rowJ σ a (gj σ a) = σ := by
  unfold rowJ
  rw [up_self]
  rfl
theorem rowI_self (σ : AH) (a : Nat) : rowI σ a (gi σ a) = σ := by
  unfold rowI
  rw [up_self]
  rfl
theorem gj_row (σ : AH) (a : Nat) (f : Nat → Int64) : gj (rowJ σ a f) a = f := up_same _ _ _
theorem gi_row (σ : AH) (a : Nat) (f : Nat → Int32) : gi (rowI σ a f) a = f := up_same _ _ _
theorem gj_rown (σ : AH) {a b : Nat} (f : Nat → Int64) (h : b ≠ a) : gj (rowJ σ a f) b = gj σ b := up_ne _ _ h
theorem gi_rown (σ : AH) {a b : Nat} (f : Nat → Int32) (h : b ≠ a) : gi (rowI σ a f) b = gi σ b := up_ne _ _ h
theorem setJ_rowJ (σ : AH) (a i : Nat) (x : Int64) (f : Nat → Int64) : setJ (rowJ σ a f) a i x = rowJ σ a (up f i x) := by
  unfold setJ
  rw [rowJ_rowJ, gj_row]
theorem setI_rowI (σ : AH) (a i : Nat) (x : Int32) (f : Nat → Int32) : setI (rowI σ a f) a i x = rowI σ a (up f i x) := by
  unfold setI
  rw [rowI_rowI, gi_row]
/-- a step of a filling loop -/
theorem fillJ (σ : AH) (a k : Nat) (f g : Nat → Int64) (x : Int64) (h : x = f k) : setJ (rowJ σ a (fl f g k)) a k x = rowJ σ a (fl f g (k + 1)) := by
  rw [setJ_rowJ, h, fl_succ]
theorem fillI (σ : AH) (a k : Nat) (f g : Nat → Int32) (x : Int32) (h : x = f k) : setI (rowI σ a (fl f g k)) a k x = rowI σ a (fl f g (k + 1)) := by
  rw [setI_rowI, h, fl_succ]
theorem rowJ_fl0 (σ : AH) (a : Nat) (f : Nat → Int64) : rowJ σ a (fl f (gj σ a) 0) = σ := by rw [fl_0, rowJ_self]
theorem rowI_fl0 (σ : AH) (a : Nat) (f : Nat → Int32) : rowI σ a (fl f (gi σ a) 0) = σ := by rw [fl_0, rowI_self]
theorem fill_R {Γ : Gm} {d : Nat} {σ : AH} {a n : Nat} (x : Int64) (ha : hs σ a = some (23, n)) (hn : n < 2 ^ 30) : RV Γ d MJ7_fill_d0a16 [.ref a, .long x] σ (fun σ' => σ' = rowJ σ a (fl (fun _ => x) (gj σ a) n)) := by
  refine eJ7_fill_d0a16 ⟨n, ha, ?_⟩
  have L : ∀ k, k ≤ n → EV Γ MJ7_fill_d0a16 d 6 [some (.ref a), some (.long x), none, some (.int (nI k)), some (.int (nI n))] [] (rowJ σ a (fl (fun _ => x) (gj σ a) k)) (fun o σ' => o = .inl none ∧ σ' = rowJ σ a (fl (fun _ => x) (gj σ a) n)) := by
    refine upto n ?_ (fun k hk ih => ?_)
    · refine gJ7_fill_d0a16_6 ⟨fun _ => ⟨rfl, rfl⟩, fun c => absurd ((nI_leI (by omega) (by omega)).mpr (Nat.le_refl n)) c⟩
    · refine gJ7_fill_d0a16_6 ⟨fun c => absurd ((nI_leI (by omega) (by omega)).mp c) (by omega), fun c => ⟨n, ha, k, IXn hk (by omega), fun σ6 h6 => ?_⟩⟩
      rw [h6, fillJ _ _ _ _ _ _ rfl, nI_1]
      exact ih
  have := L 0 (by omega)
  rw [rowJ_fl0] at this
  exact this
theorem va_cpy0 {α : Type} (f g : Nat → α) (n : Nat) : va_cpy f g 0 0 n = fl f g n := by
  funext i
  unfold va_cpy fl
  by_cases c : i < n <;> simp [c]
theorem copyJ_R {Γ : Gm} {d : Nat} {σ : AH} {a n : Nat} (m : Nat) (ha : hs σ a = some (23, n)) (hn : n < 2 ^ 25) (hm : m < 2 ^ 25) (hnm : n ≤ m) (hd : 2 ≤ d) : RQ Γ d MJ7_copyOf_c38d5 [.ref a, .int (nI m)] σ (fun r σ' => r = some (lo Γ + hc σ) ∧ ∃ f, σ' = rowJ (mk σ (lo Γ + hc σ) 23 m) (lo Γ + hc σ) f ∧ (∀ i, i < n → f i = gj σ a i) ∧ ∀ i, n ≤ i → i < m → f i = 0) := by
  refine RUN.wf (fun hw => ?_)
  have hne : a ≠ lo Γ + hc σ := by have := hw.1 a _ ha; omega
  refine eJ7_copyOf_c38d5 ⟨n, ha, fun c => ⟨m, nI_toInt (by omega), by omega, fun q σ8 hq h8 => ⟨n, ?_, by omega, hd, 0, 0, n, by decide, by decide, ?_, by omega, by omega, fun σ22 h22 => ?_⟩⟩, fun c => ⟨by omega, fun q σ28 hq h28 => ?_⟩⟩
  · subst h8; rw [hs_mk, up_ne _ _ (by rw [hq]; exact hne)]; exact ha
  · rw [if_neg (fun z => by have := (nI_ltI (by omega) (by omega)).mp z; omega)]
    exact nI_toInt (by omega)
  · subst h22 h8 hq
    refine ⟨some _, rfl, rfl, _, rfl, fun i hi => ?_, fun i hi hi2 => ?_⟩
    · rw [va_cpy0, fl_in hi, gj_mk, up_ne _ _ hne]
    · rw [va_cpy0, fl_out hi, gj_mk, up_same]
  · have e := (nI_eq (by omega) (by omega)).mp c
    subst h28 hq e
    exact ⟨some _, rfl, rfl, _, rfl, fun i hi => rfl, fun i hi hi2 => absurd hi2 (by omega)⟩
theorem copyI_R {Γ : Gm} {d : Nat} {σ : AH} {a n : Nat} (m : Nat) (ha : hs σ a = some (22, n)) (hn : n < 2 ^ 25) (hm : m < 2 ^ 25) (hnm : n ≤ m) (hd : 2 ≤ d) : RQ Γ d MJ7_copyOf_59c91 [.ref a, .int (nI m)] σ (fun r σ' => r = some (lo Γ + hc σ) ∧ ∃ f, σ' = rowI (mk σ (lo Γ + hc σ) 22 m) (lo Γ + hc σ) f ∧ (∀ i, i < n → f i = gi σ a i) ∧ ∀ i, n ≤ i → i < m → f i = 0) := by
  refine RUN.wf (fun hw => ?_)
  have hne : a ≠ lo Γ + hc σ := by have := hw.1 a _ ha; omega
  refine eJ7_copyOf_59c91 ⟨n, ha, fun c => ⟨m, nI_toInt (by omega), by omega, fun q σ8 hq h8 => ⟨n, ?_, by omega, hd, 0, 0, n, by decide, by decide, ?_, by omega, by omega, fun σ22 h22 => ?_⟩⟩, fun c => ⟨by omega, fun q σ28 hq h28 => ?_⟩⟩
  · subst h8; rw [hs_mk, up_ne _ _ (by rw [hq]; exact hne)]; exact ha
  · rw [if_neg (fun z => by have := (nI_ltI (by omega) (by omega)).mp z; omega)]
    exact nI_toInt (by omega)
  · subst h22 h8 hq
    refine ⟨some _, rfl, rfl, _, rfl, fun i hi => ?_, fun i hi hi2 => ?_⟩
    · rw [va_cpy0, fl_in hi, gi_mk, up_ne _ _ hne]
    · rw [va_cpy0, fl_out hi, gi_mk, up_same]
  · have e := (nI_eq (by omega) (by omega)).mp c
    subst h28 hq e
    exact ⟨some _, rfl, rfl, _, rfl, fun i hi => rfl, fun i hi hi2 => absurd hi2 (by omega)⟩

