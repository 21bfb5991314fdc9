/-! ROWS of the model: restRows. -/
theorem isOp_jn (F G : Nat → Bool) (m : Nat) : isOp false F G m ↔ isJn F G m := Iff.rfl
theorem mrest_R {Γ : Gm} {d : Nat} {σ : AH} {mo wk f1 f2 a b : Nat} (A : MA σ mo wk f1 f2) (ha : a < 108) (hb : b < 108) (hz : ∀ x, x < 4096 → bs (sr (gj σ wk) 108) x = false) (hd : 5 ≤ d) : RV Γ d MX9_restRows [.ref mo, .int (nI a), .int (nI b)] σ (fun σ' => Chg (fun _ => False) (mJ wk f1 f2) σ σ' ∧ keep2 (gj σ wk) (gj σ' wk) ∧ ∀ x, x < 4096 → (bs (sr (gj σ' wk) 108) x = true ↔ isRem (bs (sr (gj σ wk) a)) (bs (sr (gj σ wk) b)) x)) := by
  have A' := A
  obtain ⟨A0, A1, A2, A3, A4, A5, A6, n1, n2, n3⟩ := A'
  generalize hF : bs (sr (gj σ wk) a) = F
  generalize hG : bs (sr (gj σ wk) b) = G
  refine eX9_restRows ⟨A0, ?_⟩
  refine CV.of (d2 := 4) (mdivide_R A (by omega) (by omega) (by omega) (by omega) hz (by omega)) (by omega) (fun σ1 hw1 e1 => ?_)
  obtain ⟨C1, B1, S1⟩ := e1
  rw [hF, hG] at S1
  generalize hW : gj σ1 wk = W at B1 S1
  have last : ∀ k, k ≤ 64 → ∀ τ g, Chg (fun _ => False) (mJ wk f1 f2) σ τ → keep2 (gj σ wk) (gj τ wk) → (∀ j, j < 64 → gj τ wk (6912 + j) = if j < k then gj σ wk (64 * a + j) &&& (sr g 108 j ^^^ (-1)) else sr g 108 j) → (∀ x, x < 4096 → (bs (sr g 108) x = true ↔ isJn (quoF F G) G x)) → EV Γ MX9_restRows d 60 [some (.ref mo), some (.int (nI a)), none, some (.int (nI k))] [] τ (fun o σ' => o = .inl none ∧ Chg (fun _ => False) (mJ wk f1 f2) σ σ' ∧ keep2 (gj σ wk) (gj σ' wk) ∧ ∀ x, x < 4096 → (bs (sr (gj σ' wk) 108) x = true ↔ isRem F G x)) := by
    refine upto 64 ?_ (fun k hk ih => ?_)
    · intro τ g C k2 hj hg
      refine gX9_restRows_60 ⟨fun _ => ⟨rfl, C, k2, fun x hx => ?_⟩, fun z => absurd ((c64le (by omega)).mpr (Nat.le_refl _)) z⟩
      have e : bs (sr (gj τ wk) 108) x = (F x && !bs (sr g 108) x) := by
        show wb (gj τ wk (64 * 108 + x / 64)) (x % 64) = _
        rw [show 64 * 108 + x / 64 = 6912 + x / 64 by omega, hj _ (by omega), if_pos (by omega), w_and, w_not _ (Nat.mod_lt _ (by decide)), ← hF]
        rfl
      rw [e, Bool.and_eq_true, Bool.not_eq_true']
      unfold isRem
      rw [isOp_jn]
      refine and_congr_right (fun _ => ?_)
      have := hg x hx
      constructor
      · intro z q; rw [this.mpr q] at z; exact absurd z (by decide)
      · intro z; exact ts_nt (fun q => z (this.mp q))
    · intro τ g C k2 hj hg
      refine gX9_restRows_60 ⟨fun z => absurd ((c64le (by omega)).mp z) (by omega), fun _ => ⟨C.gh A0, wk, C.gg A3, 7040, C.gh A6, 64 * a + k, by rw [show (64 : Int32) = nI 64 from rfl, pk_mul, nI_add]; exact IXn (by omega) (by omega), 6912 + k, by rw [show (6912 : Int32) = nI 6912 from rfl, nI_add]; exact IXn (by omega) (by omega), fun τ1 ht => ?_⟩⟩
      rw [k2 _ (by omega), hj k hk, if_neg (Nat.lt_irrefl k)] at ht
      rw [nI_1]
      refine ih τ1 g (by rw [ht]; exact C.trans (Chg.rowJ _ _ (Or.inl rfl))) (fun j hj2 => by rw [ht, gj_setJ_s, up_ne _ _ (by omega)]; exact k2 j hj2) (fun j hj2 => ?_) hg
      rw [ht, gj_setJ_s]
      by_cases c : j = k
      · rw [c, up_same, if_pos (by omega)]
      · rw [up_ne _ _ (by omega), hj j hj2]
        by_cases q : j < k
        · rw [if_pos q, if_pos (by omega)]
        · rw [if_neg q, if_neg (by omega)]
  have mv : ∀ k, k ≤ 64 → ∀ τ, Chg (fun _ => False) (mJ wk f1 f2) σ τ → keep2 (gj σ wk) (gj τ wk) → (∀ j, j < 64 → gj τ wk (6912 + j) = if j < k then 0 else W (6912 + j)) → (∀ j, j < k → gj τ wk (6976 + j) = W (6912 + j)) → EV Γ MX9_restRows d 8 [some (.ref mo), some (.int (nI a)), some (.int (nI b)), some (.int (nI k))] [] τ (fun o σ' => o = .inl none ∧ Chg (fun _ => False) (mJ wk f1 f2) σ σ' ∧ keep2 (gj σ wk) (gj σ' wk) ∧ ∀ x, x < 4096 → (bs (sr (gj σ' wk) 108) x = true ↔ isRem F G x)) := by
    refine upto 64 ?_ (fun k hk ih => ?_)
    · intro τ C k2 h8 h9
      refine gX9_restRows_8 ⟨fun _ => ⟨C.gh A0, ?_⟩, fun z => absurd ((c64le (by omega)).mpr (Nat.le_refl _)) z⟩
      have z8 : ∀ x, x < 4096 → bs (sr (gj τ wk) 108) x = false := fun x hx => by
        show wb (gj τ wk (64 * 108 + x / 64)) (x % 64) = _
        rw [show 64 * 108 + x / 64 = 6912 + x / 64 by omega, h8 _ (by omega), if_pos (by omega), w_zero]
      refine CV.of (d2 := 4) (mjoin_R (a := 109) (b := b) (A.chg C) (by omega) (by omega) (by omega) (by omega) z8 (by omega)) (by omega) (fun σ2 hw2 e2 => ?_)
      obtain ⟨C2, B2, S2⟩ := e2
      have q9 : ∀ x, x < 4096 → bs (sr (gj τ wk) 109) x = quoF F G x := fun x hx => by
        have e : bs (sr (gj τ wk) 109) x = bs (sr W 108) x := by
          show wb (gj τ wk (64 * 109 + x / 64)) (x % 64) = wb (W (64 * 108 + x / 64)) (x % 64)
          rw [show 64 * 109 + x / 64 = 6976 + x / 64 by omega, h9 _ (by omega), show 64 * 108 + x / 64 = 6912 + x / 64 by omega]
        rw [e]
        unfold quoF
        by_cases c : isQuo F G x
        · rw [(S1 x hx).mpr c, bd_true.mpr c]
        · rw [ts_nt (fun z => c ((S1 x hx).mp z)), bd_false.mpr c]
      have qb : ∀ x, x < 4096 → bs (sr (gj τ wk) b) x = G x := fun x hx => by
        rw [← hG]
        exact bs_congr (fun w hw => k2 _ (by omega)) hx
      refine last 0 (by omega) σ2 (gj σ2 wk) (C.trans C2) (keep2_trans k2 (blk_keep2 (by decide) B2)) (fun j hj => by rw [if_neg (by omega)]; rfl) (fun x hx => ?_)
      rw [S2 x hx]
      exact isOp_congr (b := false) q9 qb
    · intro τ C k2 h8 h9
      refine gX9_restRows_8 ⟨fun z => absurd ((c64le (by omega)).mp z) (by omega), fun _ => ⟨C.gh A0, wk, C.gg A3, 7040, C.gh A6, 6912 + k, by rw [show (6912 : Int32) = nI 6912 from rfl, nI_add]; exact IXn (by omega) (by omega), 6976 + k, by rw [show (6976 : Int32) = nI 6976 from rfl, nI_add]; exact IXn (by omega) (by omega), fun τ1 ht1 τ2 ht2 => ?_⟩⟩
      rw [h8 k hk, if_neg (Nat.lt_irrefl k)] at ht1
      have g2 : gj τ2 wk = up (up (gj τ wk) (6976 + k) (W (6912 + k))) (6912 + k) 0 := by rw [ht2, gj_setJ_s, ht1, gj_setJ_s]
      rw [nI_1]
      refine ih τ2 (by rw [ht2, ht1]; exact C.trans ((Chg.rowJ _ _ (Or.inl rfl)).trans (Chg.rowJ _ _ (Or.inl rfl)))) (fun j hj => by rw [g2, up_ne _ _ (by omega), up_ne _ _ (by omega)]; exact k2 j hj) (fun j hj => ?_) (fun j hj => ?_)
      · rw [g2]
        by_cases c : j = k
        · rw [c, up_same, if_pos (by omega)]
        · rw [up_ne _ _ (by omega), up_ne _ _ (by omega), h8 j hj]
          by_cases q : j < k
          · rw [if_pos q, if_pos (by omega)]
          · rw [if_neg q, if_neg (by omega)]
      · rw [g2, up_ne _ _ (by omega)]
        by_cases c : j = k
        · rw [c, up_same]
        · rw [up_ne _ _ (by omega)]; exact h9 j (by omega)
  exact mv 0 (by omega) σ1 C1 (by rw [hW]; exact blk_keep2 (by decide) B1) (fun j hj => by rw [if_neg (by omega), hW]) (fun j hj => absurd hj (by omega))
