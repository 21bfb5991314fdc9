/-! ROWS of the model: operate. -/
noncomputable def modP (o : Nat) (F G : Nat → Bool) (x : Nat) : Prop := if o = 4 then isJn F G x else if o = 5 then isQuo F G x else if o = 6 then isRem F G x else if o = 7 then isMt F G x else if o = 12 then isHit F x else keepF o F G x = true
theorem isQuo_congr {F F' G G' : Nat → Bool} {m : Nat} (hm : m < 4096) (h : ∀ x, x < 4096 → F x = F' x) (h2 : ∀ x, x < 4096 → G x = G' x) : isQuo F G m ↔ isQuo F' G' m :=
  ⟨fun k y hy g => by have := k y hy (by rw [h2 y hy]; exact g); rw [h _ (or_lt hm hy)] at this; exact this, fun k y hy g => by have := k y hy (by rw [← h2 y hy]; exact g); rw [← h _ (or_lt hm hy)] at this; exact this⟩
theorem isRem_congr {F F' G G' : Nat → Bool} {m : Nat} (hm : m < 4096) (h : ∀ x, x < 4096 → F x = F' x) (h2 : ∀ x, x < 4096 → G x = G' x) : isRem F G m ↔ isRem F' G' m := by
  unfold isRem
  rw [h m hm]
  exact and_congr_right (fun _ => not_congr (isOp_congr (fun x hx => bd_congr (isQuo_congr hx h h2)) h2))
theorem isHit_congr {F F' : Nat → Bool} {m : Nat} (hm : m < 4096) (h : ∀ x, x < 4096 → F x = F' x) : isHit F m ↔ isHit F' m :=
  isMin_congr hm (fun x _ => bd_congr (not_congr (hasDn_congr h)))
theorem keepF_congr {o : Nat} {F F' G G' : Nat → Bool} {m : Nat} (hm : m < 4096) (h : ∀ x, x < 4096 → F x = F' x) (h2 : ∀ x, x < 4096 → G x = G' x) : keepF o F G m = keepF o F' G' m := by
  have d1 : ∀ (A B : Nat → Bool), (∀ x, x < 4096 → A x = B x) → dn A 12 m = dn B 12 m := fun A B q => ctp_congr (fun x hx => by rw [q x hx])
  have u1 : ∀ (A B : Nat → Bool), (∀ x, x < 4096 → A x = B x) → upc A 12 m = upc B 12 m := fun A B q => ctp_congr (fun x hx => by rw [q x hx])
  unfold keepF p1F p2F
  rw [h m hm, h2 m hm, d1 F F' h, u1 F F' h, d1 G G' h2, u1 G G' h2]
theorem modP_congr {o : Nat} {F F' G G' : Nat → Bool} {m : Nat} (hm : m < 4096) (h : ∀ x, x < 4096 → F x = F' x) (h2 : ∀ x, x < 4096 → G x = G' x) : modP o F G m ↔ modP o F' G' m := by
  unfold modP
  by_cases c4 : o = 4
  · rw [if_pos c4, if_pos c4]; exact isOp_congr (b := false) h h2
  · rw [if_neg c4, if_neg c4]
    by_cases c5 : o = 5
    · rw [if_pos c5, if_pos c5]; exact isQuo_congr hm h h2
    · rw [if_neg c5, if_neg c5]
      by_cases c6 : o = 6
      · rw [if_pos c6, if_pos c6]; exact isRem_congr hm h h2
      · rw [if_neg c6, if_neg c6]
        by_cases c7 : o = 7
        · rw [if_pos c7, if_pos c7]; exact isOp_congr (b := true) h h2
        · rw [if_neg c7, if_neg c7]
          by_cases c12 : o = 12
          · rw [if_pos c12, if_pos c12]; exact isHit_congr hm h
          · rw [if_neg c12, if_neg c12, keepF_congr hm h h2]
theorem operate_R {Γ : Gm} {d : Nat} {σ : AH} {mo wk f1 f2 a b o : Nat} (A : MA σ mo wk f1 f2) (ha : a < 108) (hb : b < 108) (ho : 1 ≤ o ∧ o ≤ 13) (hd : 7 ≤ d) : RV Γ d MX9_operate [.ref mo, .int (nI o), .int (nI a), .int (nI b)] σ (fun σ' => Chg (fun _ => False) (mJ wk f1 f2) σ σ' ∧ (∀ j, j < 6912 → (j < 64 * a ∨ 64 * a + 64 ≤ j) → gj σ' wk j = gj σ wk j) ∧ ∀ x, x < 4096 → (bs (sr (gj σ' wk) a) x = true ↔ modP o (bs (sr (gj σ wk) a)) (bs (sr (gj σ wk) b)) x)) := by
  have A' := A
  obtain ⟨A0, A1, A2, A3, A4, A5, A6, n1, n2, n3⟩ := A'
  refine eX9_operate ⟨A0, wk, A3, ?_⟩
  refine CV.of (d2 := 6) (clear_R (t := 108) A6 (by omega) (by omega)) (by omega) (fun σ4 hw4 e4 => ?_)
  obtain ⟨w, e4, w1, w2⟩ := e4
  have C4 : Chg (fun _ => False) (mJ wk f1 f2) σ σ4 := by rw [e4]; exact Chg.rowJ _ _ (Or.inl rfl)
  have g4 : gj σ4 wk = w := by rw [e4, gj_row]
  have hz : ∀ x, x < 4096 → bs (sr (gj σ4 wk) 108) x = false := fun x hx => by
    rw [g4]
    show wb (sr w 108 (x / 64)) (x % 64) = false
    rw [w2 _ (by omega), w_zero]
  have eF : ∀ x, x < 4096 → bs (sr (gj σ4 wk) a) x = bs (sr (gj σ wk) a) x := fun x hx => by rw [g4]; exact blk_bs w1 (by omega) hx
  have eG : ∀ x, x < 4096 → bs (sr (gj σ4 wk) b) x = bs (sr (gj σ wk) b) x := fun x hx => by rw [g4]; exact blk_bs w1 (by omega) hx
  have k4 : keep2 (gj σ wk) (gj σ4 wk) := by rw [g4]; exact blk_keep2 (by decide) w1
  have fin : ∀ τ, Chg (fun _ => False) (mJ wk f1 f2) σ τ → keep2 (gj σ wk) (gj τ wk) → (∀ x, x < 4096 → (bs (sr (gj τ wk) 108) x = true ↔ modP o (bs (sr (gj σ4 wk) a)) (bs (sr (gj σ4 wk) b)) x)) → EV Γ MX9_operate d 114 [some (.ref mo), none, some (.int (nI a)), none, some (.int 0)] [] τ (fun oc σ' => oc = .inl none ∧ Chg (fun _ => False) (mJ wk f1 f2) σ σ' ∧ (∀ j, j < 6912 → (j < 64 * a ∨ 64 * a + 64 ≤ j) → gj σ' wk j = gj σ wk j) ∧ ∀ x, x < 4096 → (bs (sr (gj σ' wk) a) x = true ↔ modP o (bs (sr (gj σ4 wk) a)) (bs (sr (gj σ4 wk) b)) x)) := by
    intro τ C k2 h
    have L : ∀ k, k ≤ 64 → ∀ τ', Chg (fun _ => False) (mJ wk f1 f2) σ τ' → (∀ j, j < 6912 → (j < 64 * a ∨ 64 * a + 64 ≤ j) → gj τ' wk j = gj σ wk j) → (∀ j, j < 64 → gj τ' wk (6912 + j) = gj τ wk (6912 + j)) → (∀ j, j < k → gj τ' wk (64 * a + j) = gj τ wk (6912 + j)) → EV Γ MX9_operate d 114 [some (.ref mo), none, some (.int (nI a)), none, some (.int (nI k))] [] τ' (fun oc σ' => oc = .inl none ∧ Chg (fun _ => False) (mJ wk f1 f2) σ σ' ∧ (∀ j, j < 6912 → (j < 64 * a ∨ 64 * a + 64 ≤ j) → gj σ' wk j = gj σ wk j) ∧ ∀ x, x < 4096 → (bs (sr (gj σ' wk) a) x = true ↔ modP o (bs (sr (gj σ4 wk) a)) (bs (sr (gj σ4 wk) b)) x)) := by
      refine upto 64 ?_ (fun k hk ih => ?_)
      · intro τ' C' q1 q2 q3
        refine gX9_operate_114 ⟨fun _ => ⟨rfl, C', q1, fun x hx => ?_⟩, fun z => absurd ((c64le (by omega)).mpr (Nat.le_refl _)) z⟩
        rw [← h x hx]
        have e : bs (sr (gj τ' wk) a) x = bs (sr (gj τ wk) 108) x := bs_congr (fun w hw => by
          show gj τ' wk (64 * a + w) = gj τ wk (64 * 108 + w)
          rw [q3 w hw]) hx
        rw [e]
      · intro τ' C' q1 q2 q3
        refine gX9_operate_114 ⟨fun z => absurd ((c64le (by omega)).mp z) (by omega), fun _ => ⟨C'.gh A0, wk, C'.gg A3, 7040, C'.gh A6, 6912 + k, by rw [show (6912 : Int32) = nI 6912 from rfl, nI_add]; exact IXn (by omega) (by omega), 64 * a + k, by rw [show (64 : Int32) = nI 64 from rfl, pk_mul, nI_add]; exact IXn (by omega) (by omega), fun τ1 ht => ?_⟩⟩
        rw [q2 k hk] at ht
        have g1 : gj τ1 wk = up (gj τ' wk) (64 * a + k) (gj τ wk (6912 + k)) := by rw [ht, gj_setJ_s]
        rw [nI_1]
        refine ih τ1 (by rw [ht]; exact C'.trans (Chg.rowJ _ _ (Or.inl rfl))) (fun j a1 a2 => by rw [g1, up_ne _ _ (by omega)]; exact q1 j a1 a2) (fun j hj => by rw [g1, up_ne _ _ (by omega)]; exact q2 j hj) (fun j hj => ?_)
        rw [g1]
        by_cases c : j = k
        · rw [c, up_same]
        · rw [up_ne _ _ (by omega)]; exact q3 j (by omega)
    exact L 0 (by omega) τ C (fun j a1 _ => k2 j a1) (fun j _ => rfl) (fun j hj => absurd hj (by omega))
  -- the meaning depends on the masks alone
  have mc : ∀ x, x < 4096 → (modP o (bs (sr (gj σ4 wk) a)) (bs (sr (gj σ4 wk) b)) x ↔ modP o (bs (sr (gj σ wk) a)) (bs (sr (gj σ wk) b)) x) := fun x hx => modP_congr hx eF eG
  have post : ∀ {τ : AH}, EV Γ MX9_operate d 114 [some (.ref mo), none, some (.int (nI a)), none, some (.int 0)] [] τ (fun oc σ' => oc = .inl none ∧ Chg (fun _ => False) (mJ wk f1 f2) σ σ' ∧ (∀ j, j < 6912 → (j < 64 * a ∨ 64 * a + 64 ≤ j) → gj σ' wk j = gj σ wk j) ∧ ∀ x, x < 4096 → (bs (sr (gj σ' wk) a) x = true ↔ modP o (bs (sr (gj σ4 wk) a)) (bs (sr (gj σ4 wk) b)) x)) → EV Γ MX9_operate d 114 [some (.ref mo), none, some (.int (nI a)), none, some (.int 0)] [] τ (fun oc σ' => oc = .inl none ∧ Chg (fun _ => False) (mJ wk f1 f2) σ σ' ∧ (∀ j, j < 6912 → (j < 64 * a ∨ 64 * a + 64 ≤ j) → gj σ' wk j = gj σ wk j) ∧ ∀ x, x < 4096 → (bs (sr (gj σ' wk) a) x = true ↔ modP o (bs (sr (gj σ wk) a)) (bs (sr (gj σ wk) b)) x)) :=
    fun h => h.post (fun oc σ' ⟨q1, q2, q3, q4⟩ => ⟨q1, q2, q3, fun x hx => (q4 x hx).trans (mc x hx)⟩)
  have M4 := A.chg C4
  have flt : ∀ KX, isFl o → CV Γ d MX9_filter [.ref mo, .int (nI o), .int (nI a), .int (nI b)] σ4 (fun τ => EV Γ MX9_operate d 114 [some (.ref mo), none, some (.int (nI a)), none, some (.int 0)] [] τ (fun oc σ' => oc = .inl none ∧ Chg (fun _ => False) (mJ wk f1 f2) σ σ' ∧ (∀ j, j < 6912 → (j < 64 * a ∨ 64 * a + 64 ≤ j) → gj σ' wk j = gj σ wk j) ∧ ∀ x, x < 4096 → (bs (sr (gj σ' wk) a) x = true ↔ modP o (bs (sr (gj σ wk) a)) (bs (sr (gj σ wk) b)) x))) KX := by
    intro KX hfl
    refine CV.of (d2 := 6) (mfilter_R M4 ha hb hfl hz (by omega)) (by omega) (fun τ hw e => post (fin τ (C4.trans e.1) (keep2_trans k4 (blk_keep2 (by decide) e.2.1)) (fun x hx => ?_)))
    rw [e.2.2 x hx]
    unfold modP
    rw [if_neg (by rcases hfl with h | h | h | h | h | h | h | h <;> omega), if_neg (by rcases hfl with h | h | h | h | h | h | h | h <;> omega), if_neg (by rcases hfl with h | h | h | h | h | h | h | h <;> omega), if_neg (by rcases hfl with h | h | h | h | h | h | h | h <;> omega), if_neg (by rcases hfl with h | h | h | h | h | h | h | h <;> omega)]
  rw [toI_n (by omega)]
  refine ⟨fun c => ⟨C4.gh A0, ?_⟩, fun c => ⟨C4.gh A0, ?_⟩, fun c => ⟨C4.gh A0, ?_⟩, fun c => ⟨C4.gh A0, ?_⟩, fun c => ⟨C4.gh A0, flt _ (by unfold isFl; omega)⟩, fun c => ⟨C4.gh A0, flt _ (by unfold isFl; omega)⟩, fun c => ⟨C4.gh A0, flt _ (by unfold isFl; omega)⟩, fun c => ⟨C4.gh A0, flt _ (by unfold isFl; omega)⟩, fun c => ⟨C4.gh A0, ?_⟩, fun c => ⟨C4.gh A0, flt _ (by unfold isFl; omega)⟩⟩
  · have e : o = 4 := by omega
    subst e
    exact CV.of (d2 := 6) (mjoin_R M4 (by omega) (by omega) (by omega) (by omega) hz (by omega)) (by omega) (fun τ hw e => post (fin τ (C4.trans e.1) (keep2_trans k4 (blk_keep2 (by decide) e.2.1)) (fun x hx => e.2.2 x hx)))
  · have e : o = 5 := by omega
    subst e
    exact CV.of (d2 := 6) (mdivide_R M4 (by omega) (by omega) (by omega) (by omega) hz (by omega)) (by omega) (fun τ hw e => post (fin τ (C4.trans e.1) (keep2_trans k4 (blk_keep2 (by decide) e.2.1)) (fun x hx => e.2.2 x hx)))
  · have e : o = 6 := by omega
    subst e
    exact CV.of (d2 := 6) (mrest_R M4 ha hb hz (by omega)) (by omega) (fun τ hw e => post (fin τ (C4.trans e.1) (keep2_trans k4 e.2.1) (fun x hx => e.2.2 x hx)))
  · have e : o = 7 := by omega
    subst e
    exact CV.of (d2 := 6) (mmeet_R M4 (by omega) (by omega) (by omega) (by omega) hz (by omega)) (by omega) (fun τ hw e => post (fin τ (C4.trans e.1) (keep2_trans k4 (blk_keep2 (by decide) e.2.1)) (fun x hx => e.2.2 x hx)))
  · have e : o = 12 := by omega
    subst e
    exact CV.of (d2 := 6) (mhit_R M4 ha hz (by omega)) (by omega) (fun τ hw e => post (fin τ (C4.trans e.1) (keep2_trans k4 e.2.1) (fun x hx => e.2.2 x hx)))
