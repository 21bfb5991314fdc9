/-! ROWS of Calculator: row. -/
theorem clampI {k : Nat} (h : k ≤ 42) : (if 0 < (if (42 : Int32) < nI k then 42 else nI k) then (if (42 : Int32) < nI k then 42 else nI k) else 0) = nI k := by
  have h1 : ¬ (42 : Int32) < nI k := fun z => by have := (nI_ltI (a := 42) (b := k) (by decide) (by omega)).mp z; omega
  rw [if_neg h1]
  by_cases c : 0 < nI k
  · rw [if_pos c]
  · rw [if_neg c]
    have : k = 0 := by
      rcases Nat.eq_zero_or_pos k with z | z
      · exact z
      · exact absurd ((nI_ltI (a := 0) (b := k) (by decide) (by omega)).mpr z) c
    rw [this]; rfl
theorem calcRow_R {Γ : Gm} {d : Nat} {σ : AH} {ca ra k : Nat} (h0 : hs σ ca = some (1, 2)) (h1 : gr σ ca 0 = some ra) (h2 : hs σ ra = some (26, 43)) (hk : k ≤ 42) (hd : 1 ≤ d) : RQ Γ d MX1_row [.ref ca, .int (nI k)] σ (fun r σ' => ∃ t, r = some t ∧ ((σ' = σ ∧ gr σ ra k = some t) ∨ (gr σ ra k = none ∧ t = lo Γ + hc σ ∧ σ' = setR (mk σ t 23 64) ra k (some t)))) := by
  refine RUN.wf (fun W => ?_)
  have b0 := W.1 ca _ h0
  have b2 := W.1 ra _ h2
  have ncr : ca ≠ ra := hs_ne h0 h2 (show (1 : Nat) ≠ 26 by decide)
  refine eX1_row ⟨hd, hd, h0, ra, h1, 43, h2, k, by rw [clampI hk]; exact IXn (by omega) (by omega), fun hn q σ13 hq h13 => ?_, fun t ht => ⟨some t, rfl, t, rfl, Or.inl ⟨rfl, ht⟩⟩⟩
  have n1 : ra ≠ q := by omega
  have n2 : ca ≠ q := by omega
  refine ⟨43, by rw [h13, hs_mk_n _ _ _ n1]; exact h2, k, by rw [clampI hk]; exact IXn (by omega) (by omega), fun σ19 h19 => ?_⟩
  have e19 : gr σ19 ra k = some q := by rw [h19, gr_setR_s, up_same]
  refine ⟨by rw [h19]; show hs σ13 ca = _; rw [h13, hs_mk_n _ _ _ n2]; exact h0, ra, by rw [h19, gr_setR_n _ _ _ ncr, h13, gr_mk_n _ _ _ n2]; exact h1, 43, by rw [h19]; show hs σ13 ra = _; rw [h13, hs_mk_n _ _ _ n1]; exact h2, k, by rw [clampI hk]; exact IXn (by omega) (by omega), fun z => absurd (z.symm.trans e19) (by simp), fun t ht => ⟨some t, rfl, t, rfl, Or.inr ⟨hn, ?_, ?_⟩⟩⟩
  · have := Option.some.inj (ht.symm.trans e19)
    rw [this, hq]
  · have := Option.some.inj (ht.symm.trans e19)
    rw [this, h19, h13]
