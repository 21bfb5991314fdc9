/-! ROWS of Algebra: hit, spread, sumSubsets, countPairs, pair. -/
def fle : Nat → Nat → Nat
  | 0, m => m
  | e + 1, m => fle e (flp e m)
theorem tb_fle : ∀ e m i, (fle e m).testBit i = (m.testBit i ^^ decide (i < e)) := by
  intro e
  induction e with
  | zero => intro m i; simp [fle]
  | succ e ih =>
    intro m i
    show (fle e (flp e m)).testBit i = _
    rw [ih, tb_flp]
    rcases Nat.lt_trichotomy i e with c | c | c
    · simp [c, show i ≠ e by omega, show i < e + 1 by omega]
    · subst c; simp
    · simp [show ¬ i < e by omega, show i ≠ e by omega, show ¬ i < e + 1 by omega]
theorem flp_lt {e m : Nat} (he : e < 12) (hm : m < 4096) : flp e m < 4096 := lt_of_tb (fun i hi => by rw [tb_flp, tb_big hm hi, decide_eq_false (by omega)]; rfl)
theorem tb_cpl {m : Nat} (hm : m < 4096) (i : Nat) : (4095 - m).testBit i = (decide (i < 12) && !m.testBit i) := by
  have := Nat.testBit_two_pow_sub_succ (n := 12) (x := m) (by omega) i
  rw [show 2 ^ 12 - (m + 1) = 4095 - m by omega] at this
  exact this
theorem fle_12 {m : Nat} (hm : m < 4096) : fle 12 m = 4095 - m := by
  apply Nat.eq_of_testBit_eq
  intro i
  rw [tb_fle, tb_cpl hm]
  rcases Nat.lt_or_ge i 12 with c | c
  · simp [c]
  · rw [tb_big hm c]; simp [show ¬ i < 12 by omega]
theorem isMin_congr {F G : Nat → Bool} {m : Nat} (hm : m < 4096) (h : ∀ x, x < 4096 → F x = G x) : isMin F m ↔ isMin G m := by
  unfold isMin
  rw [h m hm]
  exact and_congr_right (fun _ => ⟨fun k x hx hf => k x hx (by rw [h x hx]; exact hf), fun k x hx hf => k x hx (by rw [← h x hx]; exact hf)⟩)
noncomputable def apart (F : Nat → Bool) (m : Nat) : Bool := bd (¬ hasDn F (4095 - m))
def isHit (F : Nat → Bool) (m : Nat) : Prop := isMin (apart F) m
theorem hit_R {Γ : Gm} {d : Nat} {σ : AH} {al f1 f2 sp st row : Nat} (A : AlgOK σ al f1 f2 sp st) (hr : hs σ row = some (23, 64)) (h1 : row ≠ sp) (h2 : row ≠ st) (hd : 4 ≤ d) : RV Γ d MX0_hit [.ref al, .ref row] σ (fun σ' => Chg (aI f1 f2) (aJ sp st row) σ σ' ∧ ∀ m, m < 4096 → (bs (gj σ' row) m = true ↔ isHit (bs (gj σ row)) m)) := by
  refine eX0_hit ?_
  refine CV.of (d2 := 2) (raise_R hr (by omega) (by omega)) (by omega) (fun σ1 hw e1 => ?_)
  obtain ⟨f, e1, hf⟩ := e1
  have K : ∀ k, k ≤ 64 → ∀ g, (∀ m, m < 4096 → bs g m = bs f (4095 - m)) → EV Γ MX0_hit d 25 [some (.ref al), some (.ref row), some (.int (nI k))] [] (rowJ σ row (fl (fun w => g w ^^^ (-1)) g k)) (fun o σ' => o = .inl none ∧ Chg (aI f1 f2) (aJ sp st row) σ σ' ∧ ∀ m, m < 4096 → (bs (gj σ' row) m = true ↔ isHit (bs (gj σ row)) m)) := by
    refine upto 64 ?_ (fun k hk ih => ?_)
    · intro g hg
      refine gX0_hit_25 ⟨fun _ => ⟨A.1, ?_⟩, fun c => absurd ((c64le (by omega)).mpr (by omega)) c⟩
      have C : Chg (aI f1 f2) (aJ sp st row) σ (rowJ σ row (fl (fun w => g w ^^^ (-1)) g 64)) := Chg.rowJ _ _ (Or.inr (Or.inr rfl))
      refine CV.of (d2 := 3) (minimal_R (A.chg C) (C.gh hr) h1 h2 (by omega)) (by omega) (fun σ2 hw e2 => ?_)
      refine ⟨rfl, C.trans e2.1, fun m hm => ?_⟩
      rw [e2.2 m hm]
      refine isMin_congr hm (fun x hx => ?_)
      rw [gj_row, bs_fl hx]
      have q : bs (fun w => g w ^^^ (-1)) x = !bs g x := w_not _ (Nat.mod_lt _ (by decide))
      rw [q, hg x hx]
      have h3 := hf (4095 - x) (by omega)
      unfold apart
      by_cases c : hasDn (bs (gj σ row)) (4095 - x)
      · rw [h3.mpr c, bd_false.mpr (fun z => z c)]; rfl
      · rw [ts_nt (fun z => c (h3.mp z)), bd_true.mpr c]; rfl
    · intro g hg
      refine gX0_hit_25 ⟨fun c => absurd ((c64le (by omega)).mp c) (by omega), fun _ => ⟨64, hr, k, IXn (by omega) (by omega), fun σ9 h9 => ?_⟩⟩
      rw [gj_row, fl_out (Nat.le_refl k), fillJ _ _ _ _ _ _ rfl] at h9
      rw [h9, nI_1]; exact ih g hg
  have L : ∀ e, e ≤ 12 → ∀ g, (∀ m, m < 4096 → bs g m = bs f (fle e m)) → EV Γ MX0_hit d 6 [some (.ref al), some (.ref row), some (.int (nI e))] [] (rowJ σ row g) (fun o σ' => o = .inl none ∧ Chg (aI f1 f2) (aJ sp st row) σ σ' ∧ ∀ m, m < 4096 → (bs (gj σ' row) m = true ↔ isHit (bs (gj σ row)) m)) := by
    refine upto 12 ?_ (fun e he ih => ?_)
    · intro g hg
      refine gX0_hit_6 ⟨fun _ => ?_, fun c => absurd ((c12le (by omega)).mpr (by omega)) c⟩
      have := K 0 (by omega) g (fun m hm => by rw [hg m hm, fle_12 hm])
      rw [fl_0] at this
      exact this
    · intro g hg
      refine gX0_hit_6 ⟨fun c => absurd ((c12le (by omega)).mp c) (by omega), fun _ => ?_⟩
      refine CV.of (d2 := 2) (swap_R (σ := rowJ σ row g) hr (by omega) he) (by omega) (fun σ2 hw e2 => ?_)
      obtain ⟨g2, e2, hg2⟩ := e2
      rw [rowJ_rowJ] at e2
      rw [e2, nI_1]
      refine ih g2 (fun m hm => ?_)
      rw [hg2 m hm, gj_row, hg _ (flp_lt he hm)]
      rfl
  rw [e1]
  exact L 0 (by omega) f (fun m hm => rfl)
theorem spread_R {Γ : Gm} {d : Nat} {σ : AH} {a c n k fp : Nat} (ha : hs σ a = some (23, n)) (hc : hs σ c = some (22, 4096)) (hn : 64 ≤ n) (hk : k ≤ 12) (hf : fp < 2 ^ k) (hd : 1 ≤ d) : RV Γ d MX0_spread [.ref a, .ref c, .int (nI (2 ^ k)), .int (nI fp)] σ (fun σ' => ∃ f, σ' = rowI σ c f ∧ ∀ m, m < 2 ^ k → f m = b2i (bs (gj σ a) (m ^^^ fp))) := by
  have hp : 2 ^ k ≤ 2 ^ 12 := Nat.pow_le_pow_right (by decide) hk
  have hx : ∀ m, m < 2 ^ k → m ^^^ fp < 2 ^ k := fun m hm => Nat.xor_lt_two_pow hm hf
  refine eX0_spread ?_
  have L : ∀ j, j ≤ 2 ^ k → EV Γ MX0_spread d 3 [some (.ref a), some (.ref c), some (.int (nI (2 ^ k))), some (.int (nI fp)), some (.int (nI j))] [] (rowI σ c (fl (fun m => b2i (bs (gj σ a) (m ^^^ fp))) (gi σ c) j)) (fun o σ' => o = .inl none ∧ ∃ f, σ' = rowI σ c f ∧ ∀ m, m < 2 ^ k → f m = b2i (bs (gj σ a) (m ^^^ fp))) := by
    refine upto (2 ^ k) ?_ (fun j hj ih => ?_)
    · exact gX0_spread_3 ⟨fun _ => ⟨rfl, _, rfl, fun m hm => fl_in hm⟩, fun c => absurd ((nI_leI (by omega) (by omega)).mpr (Nat.le_refl _)) c⟩
    · refine gX0_spread_3 ⟨fun c => absurd ((nI_leI (by omega) (by omega)).mp c) (by omega), fun _ => ⟨4096, hc, fun c => absurd ((nI_leI (by omega) (by omega)).mp c) (by omega), fun _ => ?_⟩⟩
      rw [nx_xor]
      have := hx j hj
      refine CI.of (d2 := 0) (has_R (σ := rowI σ c (fl (fun m => b2i (bs (gj σ a) (m ^^^ fp))) (gi σ c) j)) ha hn (by omega)) (by omega) (fun r σ1 hw hp2 => ?_)
      obtain ⟨rfl, rfl⟩ := hp2
      have ge : gj (rowI σ c (fl (fun m => b2i (bs (gj σ a) (m ^^^ fp))) (gi σ c) j)) a = gj σ a := rfl
      rw [ge]
      refine ⟨fun z => ⟨4096, hc, j, IXn (by omega) (by omega), fun τ ht => ?_⟩, fun z => ⟨4096, hc, j, IXn (by omega) (by omega), fun τ ht => ?_⟩⟩
      · rw [fillI _ _ _ _ _ _ z.symm] at ht
        rw [ht, nI_1]; exact ih
      · have e : (1 : Int32) = b2i (bs (gj σ a) (j ^^^ fp)) := by
          cases q : bs (gj σ a) (j ^^^ fp)
          · rw [q] at z; exact absurd rfl z
          · rfl
        rw [fillI _ _ _ _ _ _ e] at ht
        rw [ht, nI_1]; exact ih
  have := L 0 (by omega)
  rw [rowI_fl0] at this
  exact this
theorem sumSubsets_R {Γ : Gm} {d : Nat} {σ : AH} {c k : Nat} {s : Int32} (C : Nat → Nat → Int32) (hc : hs σ c = some (22, 4096)) (hk : k ≤ 12) (h0 : ∀ m, m < 2 ^ k → gi σ c m = C 0 m) (hs1 : ∀ e m, e < k → m < 2 ^ k → C (e + 1) m = if m.testBit e then C e m + s * C e (m - 2 ^ e) else C e m) : RV Γ d MX0_sumSubsets [.ref c, .int (nI (2 ^ k)), .int s] σ (fun σ' => ∃ f, σ' = rowI σ c f ∧ ∀ m, m < 2 ^ k → f m = C k m) := by
  have hp : 2 ^ k ≤ 2 ^ 12 := Nat.pow_le_pow_right (by decide) hk
  refine eX0_sumSubsets ?_
  have L : ∀ e, e ≤ k → ∀ f, (∀ m, m < 2 ^ k → f m = C e m) → EV Γ MX0_sumSubsets d 2 [some (.ref c), some (.int (nI (2 ^ k))), some (.int s), some (.int (nI (2 ^ e))), none] [] (rowI σ c f) (fun o σ' => o = .inl none ∧ ∃ f, σ' = rowI σ c f ∧ ∀ m, m < 2 ^ k → f m = C k m) := by
    refine upto k ?_ (fun e he ih => ?_)
    · intro f hf
      exact gX0_sumSubsets_2 ⟨fun _ => ⟨rfl, f, rfl, hf⟩, fun z => absurd ((nI_leI (by omega) (by omega)).mpr (Nat.le_refl _)) z⟩
    · intro f hf
      have hp2 : 2 ^ e < 2 ^ k := Nat.pow_lt_pow_right (by decide) he
      refine gX0_sumSubsets_2 ⟨fun z => absurd ((nI_leI (by omega) (by omega)).mp z) (by omega), fun _ => ?_⟩
      have e2 : nI (2 ^ e) * 2 = nI (2 ^ (e + 1)) := by rw [Nat.pow_succ]; exact pk_mul _ 2
      have J : ∀ m, m ≤ 2 ^ k → ∀ f, 2 ^ e ≤ m → (∀ x, x < 2 ^ k → f x = if x < m then C (e + 1) x else C e x) → EV Γ MX0_sumSubsets d 10 [some (.ref c), some (.int (nI (2 ^ k))), some (.int s), some (.int (nI (2 ^ e))), some (.int (nI m))] [] (rowI σ c f) (fun o σ' => o = .inl none ∧ ∃ f, σ' = rowI σ c f ∧ ∀ m, m < 2 ^ k → f m = C k m) := by
        refine upto (2 ^ k) ?_ (fun m hm ih2 => ?_)
        · intro f h2 hf
          refine gX0_sumSubsets_10 ⟨fun _ => ?_, fun z => absurd ((nI_leI (by omega) (by omega)).mpr (Nat.le_refl _)) z⟩
          rw [e2]
          exact ih f (fun x hx => by rw [hf x hx, if_pos hx])
        · intro f h2 hf
          have q0 := Nat.two_pow_pos e
          have q1 : m - 2 ^ e < 2 ^ k := Nat.lt_of_le_of_lt (Nat.sub_le _ _) hm
          have q2 : m - 2 ^ e < m := Nat.sub_lt (Nat.lt_of_lt_of_le q0 h2) q0
          have q3 : m - 2 ^ e < 4096 := Nat.lt_of_lt_of_le q1 hp
          have q4 : m - 2 ^ e < 2 ^ 31 := Nat.lt_of_lt_of_le q3 (by decide)
          refine gX0_sumSubsets_10 ⟨fun z => absurd ((nI_leI (by omega) (by omega)).mp z) (by omega), fun _ => ⟨4096, hc, fun z => absurd ((nI_leI (by omega) (by omega)).mp z) (by omega), fun _ => ?_⟩⟩
          rw [fa_and, ← fa_and, fa_bit (by omega), nI_1]
          refine ⟨fun z => ih2 f (by omega) (fun x hx => ?_), fun z => ⟨m, IXn (by omega) (by omega), m - 2 ^ e, by rw [pk_sub h2]; exact IXn q3 q4, fun σ10 h10 => ?_⟩⟩
          · rw [hf x hx]
            by_cases q : x = m
            · subst q
              rw [if_neg (by omega), if_pos (by omega), hs1 e x he hx, z, if_neg (by decide)]
            · by_cases q2 : x < m
              · rw [if_pos q2, if_pos (by omega)]
              · rw [if_neg q2, if_neg (by omega)]
          · have hb := ts_nf z
            rw [setI_rowI, gi_row, hf m hm, hf _ q1, if_neg (Nat.lt_irrefl m), if_pos q2] at h10
            have eb : C (e + 1) (m - 2 ^ e) = C e (m - 2 ^ e) := by
              rw [hs1 e _ he q1, (tb_sub hb).2]
              simp
            rw [eb] at h10
            rw [h10]
            refine ih2 _ (by omega) (fun x hx => ?_)
            by_cases q : x = m
            · subst q
              rw [up_same, if_pos (by omega), hs1 e x he hx, hb, if_pos rfl]
            · rw [up_ne _ _ q, hf x hx]
              by_cases q2 : x < m
              · rw [if_pos q2, if_pos (by omega)]
              · rw [if_neg q2, if_neg (by omega)]
      refine J (2 ^ e) (by omega) f (Nat.le_refl _) (fun x hx => ?_)
      rw [hf x hx]
      by_cases q : x < 2 ^ e
      · rw [if_pos q, hs1 e x he hx, Nat.testBit_lt_two_pow q, if_neg (by decide)]
      · rw [if_neg q]
  have := L 0 (by omega) (gi σ c) h0
  rw [rowI_self] at this
  exact this

