/-! ROWS of the model: made. -/
theorem made_R {Γ : Gm} {d : Nat} {σ : AH} {mo fa wk n l : Nat} (h0 : hs σ mo = some (7, 27)) (h1 : gr σ mo 9 = some fa) (h2 : gr σ mo 15 = some wk) (h3 : hs σ fa = some (23, 12800)) (h4 : hs σ wk = some (23, 7040)) (ne : wk ≠ fa) (h5 : gi σ mo 6 = nI n) (h6 : gi σ mo 7 = nI l) (hn : n < 200) : RI Γ d MX9_made [.ref mo] σ (fun r σ' => r = nI n ∧ ∃ f, σ' = setI (setI (rowJ σ fa f) mo 6 (nI (n + 1))) mo 7 (nI (l + 1)) ∧ blk n (gj σ fa) f ∧ ∀ w, w < 64 → sr f n w = gj σ wk w) := by
  refine eX9_made ?_
  have L : ∀ k, k ≤ 64 → ∀ f, blk n (gj σ fa) f → (∀ w, w < k → sr f n w = gj σ wk w) → EV Γ MX9_made d 2 [some (.ref mo), some (.int (nI k))] [] (rowJ σ fa f) (fun o σ' => ∃ r : Int32, o = .inl (some (.int r)) ∧ r = nI n ∧ ∃ f, σ' = setI (setI (rowJ σ fa f) mo 6 (nI (n + 1))) mo 7 (nI (l + 1)) ∧ blk n (gj σ fa) f ∧ ∀ w, w < 64 → sr f n w = gj σ wk w) := by
    refine upto 64 ?_ (fun k hk ih => ?_)
    · intro f a b
      refine gX9_made_2 ⟨fun _ => ⟨h0, fun σ3 e3 σ6 e6 => ?_⟩, fun z => absurd ((c64le (by omega)).mpr (Nat.le_refl _)) z⟩
      have g3 : gi σ3 mo = up (gi σ mo) 6 (nI (n + 1)) := by
        rw [e3, gi_setI_s]
        show up (gi σ mo) 6 (gi σ mo 6 + 1) = _
        rw [h5, nI_1]
      have g6 : gi σ6 mo 6 = nI (n + 1) := by rw [e6, gi_setI_s, up_ne _ _ (by decide), g3, up_same]
      have e7 : gi σ3 mo 7 + 1 = nI (l + 1) := by rw [g3, up_ne _ _ (by decide), h6, nI_1]
      refine ⟨_, rfl, ?_, f, ?_, a, b⟩
      · rw [g6, nI_pred]
      · rw [e6, e7, e3]
        have : gi (rowJ σ fa f) mo 6 + 1 = nI (n + 1) := by
          show gi σ mo 6 + 1 = _
          rw [h5, nI_1]
        rw [this]
    · intro f a b
      have g5 : gi (rowJ σ fa f) mo 6 = nI n := h5
      refine gX9_made_2 ⟨fun z => absurd ((c64le (by omega)).mp z) (by omega), fun _ => ⟨h0, fa, h1, wk, h2, 7040, h4, k, IXn (by omega) (by omega), 12800, h3, 64 * n + k, by rw [g5, show (64 : Int32) = nI 64 from rfl, pk_mul, nI_add]; exact IXn (by omega) (by omega), fun τ ht => ?_⟩⟩
      rw [gj_rown _ _ ne, setJ_rowJ] at ht
      rw [ht, nI_1]
      refine ih _ (fun j hj => by rw [up_ne _ _ (by omega)]; exact a j hj) (fun w hw => ?_)
      unfold sr
      by_cases c : w = k
      · rw [c, up_same]
      · rw [up_ne _ _ (by omega)]; exact b w (by omega)
  have := L 0 (by omega) (gj σ fa) (blk_refl _ _) (fun w hw => absurd hw (by omega))
  rw [rowJ_self] at this
  exact this
