/-! PURE ROWS: numbers, bits. -/
theorem upto (N : Nat) {P : Nat → Prop} (h0 : P N) (hs : ∀ k, k < N → P (k + 1) → P k) : ∀ k, k ≤ N → P k := by
  have h : ∀ m k, k + m = N → P k := by
    intro m
    induction m with
    | zero => intro k hk; rw [show k = N by omega]; exact h0
    | succ m ih => intro k hk; exact hs k (by omega) (ih (k + 1) (by omega))
  exact fun k hk => h (N - k) k (by omega)
theorem lit32 (n : Nat) : (OfNat.ofNat n : Int32) = nI (OfNat.ofNat n) := rfl
theorem IXn {n j : Nat} (h : j < n) (hn : n < 2 ^ 31) : IX (nI j) n j := ⟨nI_toInt (by omega), h⟩
theorem sh_l (k : Nat) (h : k < 64) : (nI k).toInt64 &&& 63 = Int64.ofNat k := by
  apply Int64.toBitVec_inj.mp
  sorry
theorem t_shl (x : Int64) (k : Nat) (h : k < 64) : (x <<< ((nI k).toInt64 &&& 63)).toBitVec = x.toBitVec <<< k := by
  rw [sh_l k h, Int64.toBitVec_shiftLeft]
  sorry
