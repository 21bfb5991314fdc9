/-! ROWS of Rows: has, put, remove, copy, size, sizeBelow, isInside. -/
theorem testw {x : Int64} {k : Nat} (hk : k < 64) : lg_cmp ((Int64.toUInt64 x >>> ((Int32.toInt64 (nI k)).toUInt64 &&& Int64.toUInt64 63)).toInt64 &&& 1) 0 = 0 ↔ wb x k = false := by
  rw [cmp0, w_b1, w_shr x k hk (wb_cu k hk)]
  rfl
theorem has_R {Γ : Gm} {d : Nat} {σ : AH} {a n m : Nat} (ha : hs σ a = some (23, n)) (hn : 64 ≤ n) (hm : m < 4096) : RI Γ d MX7_has [.ref a, .int (nI m)] σ (fun r σ' => σ' = σ ∧ r = b2i (bs (gj σ a) m)) := by
  refine eX7_has ⟨fun c => absurd c (nn0 (by omega)), fun _ => ⟨fun c => absurd ((c4096le (by omega)).mp c) (by omega), fun _ => ⟨n, ha, m / 64, by rw [ix64 hm]; exact IXn (by omega) (by omega), ?_⟩⟩⟩
  rw [rm64 hm, testw (Nat.mod_lt _ (by decide))]
  refine ⟨fun c => ⟨_, rfl, rfl, ?_⟩, fun c => ⟨_, rfl, rfl, ?_⟩⟩
  · show (0 : Int32) = b2i (wb _ _)
    rw [c]; rfl
  · show (1 : Int32) = b2i (wb _ _)
    rw [ts_nf c]; rfl
def isM (x : Int32) : Prop := ¬ x < 0 ∧ ¬ (4096 : Int32) ≤ x
theorem isM_of {x : Int32} (h : isM x) : ∃ m, m < 4096 ∧ x = nI m := by
  obtain ⟨k, hk, rfl⟩ := nI_of h.1
  exact ⟨k, by have := h.2; rw [c4096le hk] at this; omega, rfl⟩
theorem has_R0 {Γ : Gm} {d : Nat} {σ : AH} {a : Nat} {x : Int32} (hx : ¬ isM x) : RI Γ d MX7_has [.ref a, .int x] σ (fun r σ' => σ' = σ ∧ r = 0) :=
  eX7_has ⟨fun c => ⟨_, rfl, rfl, rfl⟩, fun c => ⟨fun c2 => ⟨_, rfl, rfl, rfl⟩, fun c2 => absurd ⟨c, c2⟩ hx⟩⟩
def rput (r : Nat → Int64) (m : Nat) : Nat → Int64 := up r (m / 64) (r (m / 64) ||| bitL (m % 64))
def rrem (r : Nat → Int64) (m : Nat) : Nat → Int64 := up r (m / 64) (r (m / 64) &&& (bitL (m % 64) ^^^ (-1)))
theorem bs_rput (r : Nat → Int64) (m x : Nat) : bs (rput r m) x = (bs r x || decide (x = m)) := by
  unfold bs rput up
  have h1 := Nat.mod_lt m (show 0 < 64 by decide)
  have h2 := Nat.mod_lt x (show 0 < 64 by decide)
  by_cases c : x / 64 = m / 64
  · rw [if_pos c, w_or, w_bitL h1 h2, ← c]
    congr 1
    exact decide_eq_decide.mpr (by omega)
  · rw [if_neg c, decide_eq_false (show ¬ x = m from fun e => c (by rw [e])), Bool.or_false]
theorem bs_rrem (r : Nat → Int64) (m x : Nat) : bs (rrem r m) x = (bs r x && !decide (x = m)) := by
  unfold bs rrem up
  have h1 := Nat.mod_lt m (show 0 < 64 by decide)
  have h2 := Nat.mod_lt x (show 0 < 64 by decide)
  by_cases c : x / 64 = m / 64
  · rw [if_pos c, w_and, w_not _ h2, w_bitL h1 h2, ← c]
    congr 2
    exact decide_eq_decide.mpr (by omega)
  · rw [if_neg c, decide_eq_false (show ¬ x = m from fun e => c (by rw [e])), Bool.not_false, Bool.and_true]
theorem put_R {Γ : Gm} {d : Nat} {σ : AH} {a n m : Nat} (ha : hs σ a = some (23, n)) (hn : 64 ≤ n) (hm : m < 4096) : RV Γ d MX7_put [.ref a, .int (nI m)] σ (fun σ' => σ' = rowJ σ a (rput (gj σ a) m)) := by
  refine eX7_put ⟨fun c => absurd c (nn0 (by omega)), fun _ => ⟨fun c => absurd ((c4096le (by omega)).mp c) (by omega), fun _ => ⟨n, ha, m / 64, by rw [ix64 hm]; exact IXn (by omega) (by omega), fun σ7 h7 => ⟨rfl, ?_⟩⟩⟩⟩
  rw [h7, rm64 hm]
  rfl
theorem remove_R {Γ : Gm} {d : Nat} {σ : AH} {a n m : Nat} (ha : hs σ a = some (23, n)) (hn : 64 ≤ n) (hm : m < 4096) : RV Γ d MX7_remove [.ref a, .int (nI m)] σ (fun σ' => σ' = rowJ σ a (rrem (gj σ a) m)) := by
  refine eX7_remove ⟨fun c => absurd c (nn0 (by omega)), fun _ => ⟨fun c => absurd ((c4096le (by omega)).mp c) (by omega), fun _ => ⟨n, ha, m / 64, by rw [ix64 hm]; exact IXn (by omega) (by omega), fun σ7 h7 => ⟨rfl, ?_⟩⟩⟩⟩
  rw [h7, rm64 hm]
  rfl
theorem copy_R {Γ : Gm} {d : Nat} {σ : AH} {a b n m : Nat} (ha : hs σ a = some (23, n)) (hb : hs σ b = some (23, m)) (hn : 64 ≤ n) (hm : 64 ≤ m) (hd : 2 ≤ d) : RV Γ d MX7_copy [.ref a, .ref b] σ (fun σ' => σ' = rowJ σ b (fl (gj σ a) (gj σ b) 64)) := by
  refine eX7_copy ⟨n, ha, m, hb, hd, 0, 0, 64, by decide, by decide, by decide, by omega, by omega, fun σ' h => ⟨rfl, ?_⟩⟩
  rw [h, va_cpy0]
/-- how many masks below a bound are in the row -/
def rct (r : Nat → Int64) (n : Nat) : Nat := fb_ct (bs r) n
theorem rct_le (r : Nat → Int64) (n : Nat) : rct r n ≤ n := fb_ct_le _ _
theorem pop_word (r : Nat → Int64) (w k : Nat) (hk : k ≤ 64) (x : Nat) (e : ∀ i, i < k → x.testBit i = wb (r w) i) : fb_ct (fun i => x.testBit i) k = fb_ct (fun i => bs r (64 * w + i)) k :=
  fb_ct_cong (fun i hi => by rw [bs_word _ _ _ (by omega)]; exact e i hi)
theorem rct_word (r : Nat → Int64) (w : Nat) : rct r (64 * (w + 1)) = rct r (64 * w) + fb_ct (fun i => bs r (64 * w + i)) 64 := by
  unfold rct
  rw [show 64 * (w + 1) = 64 * w + 64 by omega, fb_ct_split]
theorem size_R {Γ : Gm} {d : Nat} {σ : AH} {a n : Nat} (ha : hs σ a = some (23, n)) (hn : 64 ≤ n) (hd : 1 ≤ d) : RI Γ d MX7_size [.ref a] σ (fun r σ' => σ' = σ ∧ r = nI (rct (gj σ a) 4096)) := by
  refine eX7_size ?_
  have L : ∀ k, k ≤ 64 → EV Γ MX7_size d 4 [some (.ref a), some (.int (nI (rct (gj σ a) (64 * k)))), some (.int (nI k))] [] σ (fun o σ' => ∃ r : Int32, o = .inl (some (.int r)) ∧ σ' = σ ∧ r = nI (rct (gj σ a) 4096)) := by
    refine upto 64 ?_ (fun k hk ih => ?_)
    · exact gX7_size_4 ⟨fun _ => ⟨_, rfl, rfl, rfl⟩, fun c => absurd ((c64le (by omega)).mpr (by omega)) c⟩
    · refine gX7_size_4 ⟨fun c => absurd ((c64le (by omega)).mp c) (by omega), fun c => ⟨n, ha, k, IXn (by omega) (by omega), ?_⟩⟩
      obtain ⟨x, hx, e⟩ := wb_of (gj σ a k)
      rw [e]
      refine CI.of (d2 := 0) (bitc64_R x hx) (by omega) (fun r σ1 hw hp => ?_)
      obtain ⟨rfl, rfl⟩ := hp
      rw [nI_add, nI_1]
      rw [rct_word, ← pop_word (gj σ1 a) k 64 (by omega) x (fun i hi => by rw [e, w_lN _ hi])] at ih
      exact ih
  exact L 0 (by omega)
theorem isInside_R {Γ : Gm} {d : Nat} {σ : AH} {a b n m : Nat} (ha : hs σ a = some (23, n)) (hb : hs σ b = some (23, m)) (hn : 64 ≤ n) (hm : 64 ≤ m) : RI Γ d MX7_isInside [.ref a, .ref b] σ (fun r σ' => σ' = σ ∧ ((r = 1 ∧ ∀ x, x < 4096 → bs (gj σ a) x = true → bs (gj σ b) x = true) ∨ (r = 0 ∧ ¬ ∀ x, x < 4096 → bs (gj σ a) x = true → bs (gj σ b) x = true))) := by
  refine eX7_isInside ?_
  have L : ∀ k, k ≤ 64 → (∀ x, x < 64 * k → bs (gj σ a) x = true → bs (gj σ b) x = true) → EV Γ MX7_isInside d 2 [some (.ref a), some (.ref b), some (.int (nI k))] [] σ (fun o σ' => ∃ r : Int32, o = .inl (some (.int r)) ∧ σ' = σ ∧ ((r = 1 ∧ ∀ x, x < 4096 → bs (gj σ a) x = true → bs (gj σ b) x = true) ∨ (r = 0 ∧ ¬ ∀ x, x < 4096 → bs (gj σ a) x = true → bs (gj σ b) x = true))) := by
    refine upto 64 ?_ (fun k hk ih => ?_)
    · intro h
      exact gX7_isInside_2 ⟨fun _ => ⟨_, rfl, rfl, Or.inl ⟨rfl, fun x hx => h x (by omega)⟩⟩, fun c => absurd ((c64le (by omega)).mpr (by omega)) c⟩
    · intro h
      refine gX7_isInside_2 ⟨fun c => absurd ((c64le (by omega)).mp c) (by omega), fun c => ⟨n, ha, k, IXn (by omega) (by omega), m, hb, k, IXn (by omega) (by omega), ?_⟩⟩
      rw [cmp0, w_zero_iff]
      refine ⟨fun z => ?_, fun z => ⟨_, rfl, rfl, Or.inr ⟨rfl, fun y => z (fun i hi => ?_)⟩⟩⟩
      · rw [nI_1]
        refine ih (fun x hx => ?_)
        rcases Nat.lt_or_ge x (64 * k) with g | g
        · exact h x g
        · have e : x = 64 * k + (x - 64 * k) := by omega
          rw [e, bs_word _ _ _ (by omega), bs_word _ _ _ (by omega)]
          have := z (x - 64 * k) (by omega)
          rw [w_and, w_not _ (by omega)] at this
          intro g2
          rw [g2] at this
          simpa using this
      · have := y (64 * k + i) (by omega)
        rw [bs_word _ _ _ hi, bs_word _ _ _ hi] at this
        rw [w_and, w_not _ hi]
        cases h1 : wb (gj σ a k) i
        · rfl
        · rw [this h1]; rfl
  exact L 0 (by omega) (fun x hx => absurd hx (by omega))

