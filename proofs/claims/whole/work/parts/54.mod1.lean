/-! ROWS of the model: has, put, clear, many, countSubsets, countSupersets, elementsIn. -/
theorem l_smod : ∀ k, k < 64 → ((lN k).toBitVec.smod 64).toNat = k := by decide +kernel
theorem w_sshr0 (x : Int64) {k : Nat} (hk : k < 64) : wb (x >>> (lN k)) 0 = wb x k := by
  unfold wb
  rw [Int64.toBitVec_shiftRight]
  show (x.toBitVec.sshiftRight ((lN k).toBitVec.smod 64).toNat).getLsbD 0 = _
  rw [l_smod k hk, BitVec.getLsbD_sshiftRight]
  simp [hk]
theorem and1_1 (x : Int64) : x &&& 1 = 1 ↔ wb x 0 = true := by
  constructor
  · intro h
    refine ts_nf (fun z => ?_)
    rw [(w_b1 x).mpr z] at h
    exact absurd h (by decide)
  · intro h
    apply wb_ext
    intro i _
    rw [w_and, w_1]
    by_cases c : i = 0
    · subst c; rw [h]; rfl
    · simp [c]
/-- the row number t of rows behind each other -/
def sr (r : Nat → Int64) (t w : Nat) : Int64 := r (64 * t + w)
theorem ix_row {t m : Nat} (hm : m < 4096) (ht : t < 2 ^ 20) : ((64 : Int32) * nI t) + (nI m >>> 6) = nI (64 * t + m / 64) := by
  rw [n_shr (d := 6) (by decide) (by omega), show (64 : Int32) = nI 64 from rfl, pk_mul, nI_add]
theorem and63 (m : Nat) : nI m &&& 63 = nI (m % 64) := fa_mask m 6
theorem mhas_R {Γ : Gm} {d : Nat} {σ : AH} {a N t m : Nat} (ha : hs σ a = some (23, N)) (ht : 64 * t + 64 ≤ N) (hN : N < 2 ^ 20) (hm : m < 4096) : RI Γ d MX9_has [.ref a, .int (nI t), .int (nI m)] σ (fun r σ' => σ' = σ ∧ r = b2i (bs (sr (gj σ a) t) m)) := by
  have hk := Nat.mod_lt m (show 0 < 64 by decide)
  refine eX9_has ⟨N, ha, 64 * t + m / 64, by rw [ix_row hm (by omega)]; exact IXn (by omega) (by omega), ?_⟩
  rw [and63, wb_c _ hk]
  have e : (gj σ a (64 * t + m / 64) >>> lN (m % 64)) &&& 1 = 1 ↔ bs (sr (gj σ a) t) m = true := by
    rw [and1_1, w_sshr0 _ hk]; exact Iff.rfl
  refine ⟨fun c => ⟨_, rfl, rfl, ?_⟩, fun c => ⟨_, rfl, rfl, ?_⟩⟩
  · rw [ts_nt (fun z => c ((cmp0 _ _).mpr (e.mpr z)))]; rfl
  · rw [e.mp ((cmp0 _ _).mp c)]; rfl
/-- only the row t changed -/
def blk (t : Nat) (r f : Nat → Int64) : Prop := ∀ j, (j < 64 * t ∨ 64 * t + 64 ≤ j) → f j = r j
theorem blk_sr {t u : Nat} {r f : Nat → Int64} (h : blk t r f) (ne : u ≠ t) {w : Nat} (hw : w < 64) : sr f u w = sr r u w := h _ (by omega)
theorem blk_bs {t u : Nat} {r f : Nat → Int64} (h : blk t r f) (ne : u ≠ t) {m : Nat} (hm : m < 4096) : bs (sr f u) m = bs (sr r u) m := bs_congr (fun w hw => blk_sr h ne hw) hm
theorem blk_refl (t : Nat) (r : Nat → Int64) : blk t r r := fun _ _ => rfl
theorem blk_trans {t : Nat} {r f g : Nat → Int64} (h : blk t r f) (k : blk t f g) : blk t r g := fun j hj => (k j hj).trans (h j hj)
theorem mput_R {Γ : Gm} {d : Nat} {σ : AH} {a N t m : Nat} (ha : hs σ a = some (23, N)) (ht : 64 * t + 64 ≤ N) (hN : N < 2 ^ 20) (hm : m < 4096) : RV Γ d MX9_put [.ref a, .int (nI t), .int (nI m)] σ (fun σ' => ∃ f, σ' = rowJ σ a f ∧ blk t (gj σ a) f ∧ ∀ x, x < 4096 → bs (sr f t) x = (bs (sr (gj σ a) t) x || decide (x = m))) := by
  have hk := Nat.mod_lt m (show 0 < 64 by decide)
  refine eX9_put ⟨N, ha, 64 * t + m / 64, by rw [ix_row hm (by omega)]; exact IXn (by omega) (by omega), fun σ5 h5 => ⟨rfl, _, h5, fun j hj => up_ne _ _ (by omega), fun x hx => ?_⟩⟩
  rw [← bs_rput]
  refine bs_congr (fun w hw => ?_) hx
  unfold sr rput up
  rw [and63]
  by_cases c : w = m / 64
  · rw [if_pos (by omega), if_pos c]; rfl
  · rw [if_neg (by omega), if_neg c]
theorem clear_R {Γ : Gm} {d : Nat} {σ : AH} {a N t : Nat} (ha : hs σ a = some (23, N)) (ht : 64 * t + 64 ≤ N) (hN : N < 2 ^ 20) : RV Γ d MX9_clear [.ref a, .int (nI t)] σ (fun σ' => ∃ f, σ' = rowJ σ a f ∧ blk t (gj σ a) f ∧ ∀ w, w < 64 → sr f t w = 0) := by
  refine eX9_clear ?_
  have L : ∀ k, k ≤ 64 → ∀ f, blk t (gj σ a) f → (∀ w, w < k → sr f t w = 0) → EV Γ MX9_clear d 2 [some (.ref a), some (.int (nI t)), some (.int (nI k))] [] (rowJ σ a f) (fun o σ' => o = .inl none ∧ ∃ f, σ' = rowJ σ a f ∧ blk t (gj σ a) f ∧ ∀ w, w < 64 → sr f t w = 0) := by
    refine upto 64 ?_ (fun k hk ih => ?_)
    · intro f h1 h2
      exact gX9_clear_2 ⟨fun _ => ⟨rfl, f, rfl, h1, h2⟩, fun c => absurd ((c64le (by omega)).mpr (by omega)) c⟩
    · intro f h1 h2
      refine gX9_clear_2 ⟨fun c => absurd ((c64le (by omega)).mp c) (by omega), fun _ => ⟨N, ha, 64 * t + k, by rw [show (64 : Int32) = nI 64 from rfl, pk_mul, nI_add]; exact IXn (by omega) (by omega), fun σ6 h6 => ?_⟩⟩
      rw [setJ_rowJ] at h6
      rw [h6, nI_1]
      refine ih _ (fun j hj => by rw [up_ne _ _ (by omega)]; exact h1 j hj) (fun w hw => ?_)
      unfold sr
      by_cases c : w = k
      · rw [c, up_same]
      · rw [up_ne _ _ (by omega)]; exact h2 w (by omega)
  have := L 0 (by omega) (gj σ a) (blk_refl _ _) (fun w hw => absurd hw (by omega))
  rw [rowJ_self] at this
  exact this
theorem many_R {Γ : Gm} {d : Nat} {σ : AH} {a N t : Nat} (ha : hs σ a = some (23, N)) (ht : 64 * t + 64 ≤ N) (hN : N < 2 ^ 20) (hd : 1 ≤ d) : RI Γ d MX9_many [.ref a, .int (nI t)] σ (fun r σ' => σ' = σ ∧ r = nI (rct (sr (gj σ a) t) 4096)) := by
  refine eX9_many ?_
  have L : ∀ m, m ≤ 4096 → EV Γ MX9_many d 4 [some (.ref a), some (.int (nI t)), some (.int (nI (rct (sr (gj σ a) t) m))), some (.int (nI m))] [] σ (fun o σ' => ∃ r : Int32, o = .inl (some (.int r)) ∧ σ' = σ ∧ r = nI (rct (sr (gj σ a) t) 4096)) := by
    refine upto 4096 ?_ (fun m hm ih => ?_)
    · exact gX9_many_4 ⟨fun _ => ⟨_, rfl, rfl, rfl⟩, fun c => absurd ((c4096le (by omega)).mpr (Nat.le_refl _)) c⟩
    · refine gX9_many_4 ⟨fun c => absurd ((c4096le (by omega)).mp c) (by omega), fun _ => ?_⟩
      refine CI.of (d2 := 0) (mhas_R ha ht hN hm) (by omega) (fun r σ1 hw e1 => ?_)
      obtain ⟨rfl, rfl⟩ := e1
      rw [rct_succ] at ih
      refine ⟨fun c => ?_, fun c => ?_⟩
      · rw [(b2i_0 _).mp c, if_neg (by decide)] at ih
        rw [Int32.add_zero, nI_1]
        exact ih
      · rw [ts_nf (fun z => c ((b2i_0 _).mpr z)), if_pos rfl] at ih
        rw [nI_1, nI_1]
        exact ih
  exact L 0 (by omega)
theorem bit1 {m e : Nat} (he : e < 12) (h : m < 4096) : (nI m >>> (nI e &&& 31)) &&& 1 = 1 ↔ m.testBit e = true := by
  rw [n_bit (by omega) (by omega)]
  cases m.testBit e <;> decide
theorem bit0 {m e : Nat} (he : e < 12) (h : m < 4096) : (nI m >>> (nI e &&& 31)) &&& 1 = 0 ↔ m.testBit e = false := by
  rw [n_bit (by omega) (by omega)]
  cases m.testBit e <;> decide
/-- a pass over the counts, bit by bit -/
theorem mcount_R {Γ : Gm} {d : Nat} {σ : AH} {a N t c : Nat} (ha : hs σ a = some (23, N)) (hc : hs σ c = some (23, 4096)) (hac : c ≠ a) (ht : 64 * t + 64 ≤ N) (hN : N < 2 ^ 20) (hd : 1 ≤ d) : RV Γ d MX9_countSubsets [.ref a, .int (nI t), .ref c] σ (fun σ' => ∃ f, σ' = rowJ σ c f ∧ ∀ m, m < 4096 → f m = lN (dn (bs (sr (gj σ a) t)) 12 m)) := by
  generalize hF : bs (sr (gj σ a) t) = F
  have P : ∀ e, e ≤ 12 → ∀ f, (∀ m, m < 4096 → f m = lN (dn F e m)) → EV Γ MX9_countSubsets d 34 [none, none, some (.ref c), some (.int (nI e)), none] [] (rowJ σ c f) (fun o σ' => o = .inl none ∧ ∃ f, σ' = rowJ σ c f ∧ ∀ m, m < 4096 → f m = lN (dn F 12 m)) := by
    refine upto 12 ?_ (fun e he ih => ?_)
    · intro f hf
      exact gX9_countSubsets_34 ⟨fun _ => ⟨rfl, f, rfl, hf⟩, fun z => absurd ((c12le (by omega)).mpr (Nat.le_refl _)) z⟩
    · intro f hf
      refine gX9_countSubsets_34 ⟨fun z => absurd ((c12le (by omega)).mp z) (by omega), fun _ => ?_⟩
      have J : ∀ m, m ≤ 4096 → ∀ f, (∀ x, x < 4096 → f x = if x < m then lN (dn F (e + 1) x) else lN (dn F e x)) → EV Γ MX9_countSubsets d 43 [none, none, some (.ref c), some (.int (nI e)), some (.int (nI m))] [] (rowJ σ c f) (fun o σ' => o = .inl none ∧ ∃ f, σ' = rowJ σ c f ∧ ∀ m, m < 4096 → f m = lN (dn F 12 m)) := by
        refine upto 4096 ?_ (fun m hm ih2 => ?_)
        · intro f hf
          refine gX9_countSubsets_43 ⟨fun _ => ?_, fun z => absurd ((c4096le (by omega)).mpr (Nat.le_refl _)) z⟩
          rw [nI_1]
          exact ih f (fun x hx => by rw [hf x hx, if_pos hx])
        · intro f hf
          have q0 := Nat.two_pow_pos e
          refine gX9_countSubsets_43 ⟨fun z => absurd ((c4096le (by omega)).mp z) (by omega), fun _ => ?_⟩
          rw [el_bit e he, nI_1]
          refine ⟨fun z => ih2 f (fun x hx => ?_), fun z => ?_⟩
          · have hb : m.testBit e = false := ts_nt (fun y => z ((bit1 he hm).mpr y))
            rw [hf x hx]
            by_cases q : x = m
            · subst q
              rw [if_neg (by omega), if_pos (by omega), dn_s, hb, if_neg (by decide)]
              exact congrArg lN (Nat.add_zero _).symm
            · by_cases q2 : x < m
              · rw [if_pos q2, if_pos (by omega)]
              · rw [if_neg q2, if_neg (by omega)]
          · have hb := (bit1 he hm).mp z
            obtain ⟨h2, h3⟩ := tb_sub hb
            have q1 : m - 2 ^ e < 4096 := Nat.lt_of_le_of_lt (Nat.sub_le _ _) hm
            have q2 : m - 2 ^ e < m := Nat.sub_lt (Nat.lt_of_lt_of_le q0 h2) q0
            refine ⟨4096, hc, m, IXn (by omega) (by omega), m - 2 ^ e, by rw [pk_sub h2]; exact IXn q1 (by omega), fun σ9 h9 => ?_⟩
            have eb : dn F (e + 1) (m - 2 ^ e) = dn F e (m - 2 ^ e) := by
              rw [dn_s, h3]
              simp
            rw [setJ_rowJ, gj_row, hf m hm, hf _ q1, if_neg (Nat.lt_irrefl m), if_pos q2, eb, lN_add] at h9
            rw [h9]
            refine ih2 _ (fun x hx => ?_)
            by_cases q : x = m
            · subst q
              rw [up_same, if_pos (by omega), dn_s, hb, if_pos rfl]
            · rw [up_ne _ _ q, hf x hx]
              by_cases q2 : x < m
              · rw [if_pos q2, if_pos (by omega)]
              · rw [if_neg q2, if_neg (by omega)]
      exact J 0 (by omega) f (fun x hx => by rw [if_neg (by omega)]; exact hf x hx)
  refine eX9_countSubsets ?_
  have L : ∀ m, m ≤ 4096 → ∀ f, (∀ x, x < m → f x = lN (dn F 0 x)) → EV Γ MX9_countSubsets d 2 [some (.ref a), some (.int (nI t)), some (.ref c), some (.int (nI m)), none] [] (rowJ σ c f) (fun o σ' => o = .inl none ∧ ∃ f, σ' = rowJ σ c f ∧ ∀ m, m < 4096 → f m = lN (dn F 12 m)) := by
    refine upto 4096 ?_ (fun m hm ih => ?_)
    · intro f hf
      exact gX9_countSubsets_2 ⟨fun _ => P 0 (by omega) f hf, fun z => absurd ((c4096le (by omega)).mpr (Nat.le_refl _)) z⟩
    · intro f hf
      refine gX9_countSubsets_2 ⟨fun z => absurd ((c4096le (by omega)).mp z) (by omega), fun _ => ?_⟩
      refine CI.of (d2 := 0) (mhas_R (σ := rowJ σ c f) ha ht hN hm) (by omega) (fun r σ1 hw e1 => ?_)
      obtain ⟨rfl, rfl⟩ := e1
      rw [gj_rown _ _ (Ne.symm hac), hF]
      have stp : ∀ x : Int64, x = lN (dn F 0 m) → ∀ τ, τ = setJ (rowJ σ c f) c m x → EV Γ MX9_countSubsets d 2 [some (.ref a), some (.int (nI t)), some (.ref c), some (.int (nI m + 1)), none] [] τ (fun o σ' => o = .inl none ∧ ∃ f, σ' = rowJ σ c f ∧ ∀ m, m < 4096 → f m = lN (dn F 12 m)) := by
        intro x hx τ ht
        rw [setJ_rowJ] at ht
        rw [ht, nI_1]
        refine ih _ (fun y hy => ?_)
        by_cases q : y = m
        · rw [q, up_same]; exact hx
        · rw [up_ne _ _ q]; exact hf y (by omega)
      refine ⟨fun z => ⟨4096, hc, m, IXn (by omega) (by omega), fun τ ht => stp _ ?_ τ ht⟩, fun z => ⟨4096, hc, m, IXn (by omega) (by omega), fun τ ht => stp _ ?_ τ ht⟩⟩
      · rw [dn_0 hm, (b2i_0 _).mp z]; rfl
      · rw [dn_0 hm, ts_nf (fun y => z ((b2i_0 _).mpr y))]; rfl
  have := L 0 (by omega) (gj σ c) (fun x hx => absurd hx (by omega))
  rw [rowJ_self] at this
  exact this
