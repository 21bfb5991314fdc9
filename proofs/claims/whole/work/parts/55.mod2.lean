/-! ROWS of the model: countSupersets, elementsIn, costOf, load. -/
/-- a pass over the counts, bit by bit -/
theorem mcountUp_R {Γ : Gm} {d : Nat} {σ : AH} {a N t c : Nat} (ha : hs σ a = some (23, N)) (hc : hs σ c = some (23, 4096)) (hac : c ≠ a) (ht : 64 * t + 64 ≤ N) (hN : N < 2 ^ 20) (hd : 1 ≤ d) : RV Γ d MX9_countSupersets [.ref a, .int (nI t), .ref c] σ (fun σ' => ∃ f, σ' = rowJ σ c f ∧ ∀ m, m < 4096 → f m = lN (upc (bs (sr (gj σ a) t)) 12 m)) := by
  generalize hF : bs (sr (gj σ a) t) = F
  have P : ∀ e, e ≤ 12 → ∀ f, (∀ m, m < 4096 → f m = lN (upc F e m)) → EV Γ MX9_countSupersets d 34 [none, none, some (.ref c), some (.int (nI e)), none] [] (rowJ σ c f) (fun o σ' => o = .inl none ∧ ∃ f, σ' = rowJ σ c f ∧ ∀ m, m < 4096 → f m = lN (upc F 12 m)) := by
    refine upto 12 ?_ (fun e he ih => ?_)
    · intro f hf
      exact gX9_countSupersets_34 ⟨fun _ => ⟨rfl, f, rfl, hf⟩, fun z => absurd ((c12le (by omega)).mpr (Nat.le_refl _)) z⟩
    · intro f hf
      refine gX9_countSupersets_34 ⟨fun z => absurd ((c12le (by omega)).mp z) (by omega), fun _ => ?_⟩
      have J : ∀ m, m ≤ 4096 → ∀ f, (∀ x, x < 4096 → f x = if x < m then lN (upc F (e + 1) x) else lN (upc F e x)) → EV Γ MX9_countSupersets d 43 [none, none, some (.ref c), some (.int (nI e)), some (.int (nI m))] [] (rowJ σ c f) (fun o σ' => o = .inl none ∧ ∃ f, σ' = rowJ σ c f ∧ ∀ m, m < 4096 → f m = lN (upc F 12 m)) := by
        refine upto 4096 ?_ (fun m hm ih2 => ?_)
        · intro f hf
          refine gX9_countSupersets_43 ⟨fun _ => ?_, fun z => absurd ((c4096le (by omega)).mpr (Nat.le_refl _)) z⟩
          rw [nI_1]
          exact ih f (fun x hx => by rw [hf x hx, if_pos hx])
        · intro f hf
          have q0 := Nat.two_pow_pos e
          refine gX9_countSupersets_43 ⟨fun z => absurd ((c4096le (by omega)).mp z) (by omega), fun _ => ?_⟩
          rw [el_bit e he, nI_1]
          refine ⟨fun z => ih2 f (fun x hx => ?_), fun z => ?_⟩
          · have hb : m.testBit e = true := ts_nf (fun y => z ((bit0 he hm).mpr y))
            rw [hf x hx]
            by_cases q : x = m
            · subst q
              rw [if_neg (by omega), if_pos (by omega), upc_s, hb, if_pos rfl]
              exact congrArg lN (Nat.add_zero _).symm
            · by_cases q2 : x < m
              · rw [if_pos q2, if_pos (by omega)]
              · rw [if_neg q2, if_neg (by omega)]
          · have hb := (bit0 he hm).mp z
            have q1 := add_lt hm he hb
            refine ⟨4096, hc, m, IXn (by omega) (by omega), m + 2 ^ e, by rw [nI_add]; exact IXn q1 (by omega), fun σ9 h9 => ?_⟩
            rw [setJ_rowJ, gj_row, hf m hm, hf _ q1, if_neg (Nat.lt_irrefl m), if_neg (by omega), lN_add] at h9
            rw [h9]
            refine ih2 _ (fun x hx => ?_)
            by_cases q : x = m
            · subst q
              rw [up_same, if_pos (by omega), upc_s, hb, if_neg (by decide)]
            · rw [up_ne _ _ q, hf x hx]
              by_cases q2 : x < m
              · rw [if_pos q2, if_pos (by omega)]
              · rw [if_neg q2, if_neg (by omega)]
      exact J 0 (by omega) f (fun x hx => by rw [if_neg (by omega)]; exact hf x hx)
  refine eX9_countSupersets ?_
  have L : ∀ m, m ≤ 4096 → ∀ f, (∀ x, x < m → f x = lN (upc F 0 x)) → EV Γ MX9_countSupersets d 2 [some (.ref a), some (.int (nI t)), some (.ref c), some (.int (nI m)), none] [] (rowJ σ c f) (fun o σ' => o = .inl none ∧ ∃ f, σ' = rowJ σ c f ∧ ∀ m, m < 4096 → f m = lN (upc F 12 m)) := by
    refine upto 4096 ?_ (fun m hm ih => ?_)
    · intro f hf
      exact gX9_countSupersets_2 ⟨fun _ => P 0 (by omega) f hf, fun z => absurd ((c4096le (by omega)).mpr (Nat.le_refl _)) z⟩
    · intro f hf
      refine gX9_countSupersets_2 ⟨fun z => absurd ((c4096le (by omega)).mp z) (by omega), fun _ => ?_⟩
      refine CI.of (d2 := 0) (mhas_R (σ := rowJ σ c f) ha ht hN hm) (by omega) (fun r σ1 hw e1 => ?_)
      obtain ⟨rfl, rfl⟩ := e1
      rw [gj_rown _ _ (Ne.symm hac), hF]
      have stp : ∀ x : Int64, x = lN (upc F 0 m) → ∀ τ, τ = setJ (rowJ σ c f) c m x → EV Γ MX9_countSupersets d 2 [some (.ref a), some (.int (nI t)), some (.ref c), some (.int (nI m + 1)), none] [] τ (fun o σ' => o = .inl none ∧ ∃ f, σ' = rowJ σ c f ∧ ∀ m, m < 4096 → f m = lN (upc F 12 m)) := by
        intro x hx τ ht
        rw [setJ_rowJ] at ht
        rw [ht, nI_1]
        refine ih _ (fun y hy => ?_)
        by_cases q : y = m
        · rw [q, up_same]; exact hx
        · rw [up_ne _ _ q]; exact hf y (by omega)
      refine ⟨fun z => ⟨4096, hc, m, IXn (by omega) (by omega), fun τ ht => stp _ ?_ τ ht⟩, fun z => ⟨4096, hc, m, IXn (by omega) (by omega), fun τ ht => stp _ ?_ τ ht⟩⟩
      · rw [upc_0 hm, (b2i_0 _).mp z]; rfl
      · rw [upc_0 hm, ts_nf (fun y => z ((b2i_0 _).mpr y))]; rfl
  have := L 0 (by omega) (gj σ c) (fun x hx => absurd hx (by omega))
  rw [rowJ_self] at this
  exact this
theorem fb_tail {p : Nat → Bool} {n m : Nat} (h : ∀ i, n ≤ i → p i = false) : fb_ct p (n + m) = fb_ct p n := by
  rw [fb_ct_split, (fb_ct_zero (p := fun k => p (n + k))).mpr (fun i _ => h _ (by omega)), Nat.add_zero]
theorem pop_12 {m : Nat} (hm : m < 4096) : popN 32 m = popN 12 m := fb_tail (n := 12) (m := 20) (fun i hi => tb_big hm hi)
theorem elementsIn_R {Γ : Gm} {d : Nat} {σ : AH} {m : Nat} (hm : m < 4096) : RI Γ d MX9_elementsIn [.int (nI m)] σ (fun r σ' => σ' = σ ∧ r = nI (popN 12 m)) := by
  refine eX9_elementsIn ?_
  have L : ∀ e, e ≤ 12 → EV Γ MX9_elementsIn d 4 [some (.int (nI m)), some (.int (nI (popN e m))), some (.int (nI e))] [] σ (fun o σ' => ∃ r : Int32, o = .inl (some (.int r)) ∧ σ' = σ ∧ r = nI (popN 12 m)) := by
    refine upto 12 ?_ (fun e he ih => ?_)
    · exact gX9_elementsIn_4 ⟨fun _ => ⟨_, rfl, rfl, rfl⟩, fun z => absurd ((c12le (by omega)).mpr (Nat.le_refl _)) z⟩
    · refine gX9_elementsIn_4 ⟨fun z => absurd ((c12le (by omega)).mp z) (by omega), fun _ => ?_⟩
      rw [n_bit (by omega) (by omega), nI_1]
      have e1 : popN (e + 1) m = popN e m + (if m.testBit e then 1 else 0) := rfl
      rw [e1] at ih
      cases hb : m.testBit e
      · rw [hb, if_neg (by decide)] at ih
        rw [show b2i false = 0 from rfl, Int32.add_zero]; exact ih
      · rw [hb, if_pos rfl] at ih
        rw [show b2i true = 1 from rfl, nI_1]; exact ih
  exact L 0 (by omega)
theorem costOf_R {Γ : Gm} {d : Nat} {σ : AH} {mo ct m : Nat} {c : Nat → Int32} (h0 : hs σ mo = some (7, 27)) (h1 : gr σ mo 10 = some ct) (h2 : hs σ ct = some (22, 12)) (h3 : ∀ e, e < 12 → gi σ ct e = c e) (hm : m < 4096) : RI Γ d MX9_costOf [.ref mo, .int (nI m)] σ (fun r σ' => σ' = σ ∧ r = csum c 12 m) := by
  refine eX9_costOf ?_
  have L : ∀ e, e ≤ 12 → EV Γ MX9_costOf d 4 [some (.ref mo), some (.int (nI m)), some (.int (csum c e m)), some (.int (nI e))] [] σ (fun o σ' => ∃ r : Int32, o = .inl (some (.int r)) ∧ σ' = σ ∧ r = csum c 12 m) := by
    refine upto 12 ?_ (fun e he ih => ?_)
    · exact gX9_costOf_4 ⟨fun _ => ⟨_, rfl, rfl, rfl⟩, fun z => absurd ((c12le (by omega)).mpr (Nat.le_refl _)) z⟩
    · refine gX9_costOf_4 ⟨fun z => absurd ((c12le (by omega)).mp z) (by omega), fun _ => ⟨h0, ct, h1, 12, h2, e, IXn he (by omega), ?_⟩⟩
      rw [n_bit (by omega) (by omega), nI_1, h3 e he]
      have e1 : csum c (e + 1) m = csum c e m + (if m.testBit e then c e else 0) := rfl
      rw [e1] at ih
      cases hb : m.testBit e
      · rw [hb, if_neg (by decide)] at ih
        rw [show b2i false = 0 from rfl, Int32.zero_mul]; exact ih
      · rw [hb, if_pos rfl] at ih
        rw [show b2i true = 1 from rfl, Int32.one_mul]; exact ih
  exact L 0 (by omega)
theorem load_R {Γ : Gm} {d : Nat} {σ : AH} {mo fa wk N M t u : Nat} (h0 : hs σ mo = some (7, 27)) (h1 : gr σ mo 15 = some wk) (h2 : gr σ mo 9 = some fa) (hf : hs σ fa = some (23, N)) (hw : hs σ wk = some (23, M)) (ne : fa ≠ wk) (ht : 64 * t + 64 ≤ N) (hu : 64 * u + 64 ≤ M) (hN : N < 2 ^ 20) (hM : M < 2 ^ 20) : RV Γ d MX9_load [.ref mo, .int (nI t), .int (nI u)] σ (fun σ' => ∃ f, σ' = rowJ σ wk f ∧ blk u (gj σ wk) f ∧ ∀ w, w < 64 → sr f u w = sr (gj σ fa) t w) := by
  refine eX9_load ?_
  have L : ∀ k, k ≤ 64 → ∀ f, blk u (gj σ wk) f → (∀ w, w < k → sr f u w = sr (gj σ fa) t w) → EV Γ MX9_load d 2 [some (.ref mo), some (.int (nI t)), some (.int (nI u)), some (.int (nI k))] [] (rowJ σ wk f) (fun o σ' => o = .inl none ∧ ∃ f, σ' = rowJ σ wk f ∧ blk u (gj σ wk) f ∧ ∀ w, w < 64 → sr f u w = sr (gj σ fa) t w) := by
    refine upto 64 ?_ (fun k hk ih => ?_)
    · intro f a b
      exact gX9_load_2 ⟨fun _ => ⟨rfl, f, rfl, a, b⟩, fun z => absurd ((c64le (by omega)).mpr (Nat.le_refl _)) z⟩
    · intro f a b
      refine gX9_load_2 ⟨fun z => absurd ((c64le (by omega)).mp z) (by omega), fun _ => ⟨h0, wk, h1, fa, h2, N, hf, 64 * t + k, by rw [show (64 : Int32) = nI 64 from rfl, pk_mul, nI_add]; exact IXn (by omega) (by omega), M, hw, 64 * u + k, by rw [show (64 : Int32) = nI 64 from rfl, pk_mul, nI_add]; exact IXn (by omega) (by omega), fun τ ht => ?_⟩⟩
      rw [gj_rown _ _ ne, setJ_rowJ] at ht
      rw [ht, nI_1]
      refine ih _ (fun j hj => by rw [up_ne _ _ (by omega)]; exact a j hj) (fun w hw => ?_)
      unfold sr
      by_cases c : w = k
      · rw [c, up_same]
      · rw [up_ne _ _ (by omega)]; exact b w (by omega)
  have := L 0 (by omega) (gj σ wk) (blk_refl _ _) (fun w hw => absurd hw (by omega))
  rw [rowJ_self] at this
  exact this
