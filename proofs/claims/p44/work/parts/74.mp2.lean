/-! ROWS of the model's parser: products and sums. -/
theorem MD.add {σ σ' : AH} {mo pg a o s k : Nat} {v : Int32} {pr : List Nat} (D : MD σ mo pg a pr o) (ne : mo ≠ pg) (hk : k = pr.length) (hs' : v = nI s) (e : σ' = setI (setI σ pg k v) mo 23 (nI (k + 1))) : MD σ' mo pg a (pr ++ [s]) o := by
  obtain ⟨D0, D1, D2, D3, D4⟩ := D
  have g : gi σ' mo = up (gi σ mo) 23 (nI (k + 1)) := by rw [e, gi_setI_s, gi_setI_n _ _ _ ne]
  have g2 : gi σ' pg = up (gi σ pg) k v := by rw [e, gi_setI_n _ _ _ (Ne.symm ne), gi_setI_s]
  unfold MD
  rw [g, g2]
  refine ⟨by rw [up_ne _ _ (by decide)]; exact D0, by rw [up_same, hk, List.length_append]; rfl, by rw [up_ne _ _ (by decide)]; exact D2, by rw [up_ne _ _ (by decide)]; exact D3, fun j x hj => ?_⟩
  rcases list_snoc hj with ⟨c, q⟩ | ⟨c, q⟩
  · rw [up_ne _ _ (by omega)]; exact D4 j x q
  · rw [c, ← hk, up_same, q]; exact hs'
theorem ME.add {σ σ' : AH} {mo pg a k e : Nat} {v : Int32} (D : ME σ mo a k e) (ne : mo ≠ pg) (h : σ' = setI (setI σ pg k v) mo 23 (nI (k + 1))) : ME σ' mo a (k + 1) e := by
  obtain ⟨D0, D1, D2⟩ := D
  have g : gi σ' mo = up (gi σ mo) 23 (nI (k + 1)) := by rw [h, gi_setI_s, gi_setI_n _ _ _ ne]
  unfold ME
  rw [g]
  exact ⟨by rw [up_ne _ _ (by decide)]; exact D0, up_same _ _ _, by rw [up_ne _ _ (by decide)]; exact D2⟩
section MP
variable {Γ : Gm} {mo tx pg ir tl n : Nat} {t : Nat → Int32} {rel : Nat → Bool}

end MP

