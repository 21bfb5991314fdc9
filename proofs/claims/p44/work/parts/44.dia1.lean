/-! ROWS of Diagrams: the frame, the places, placeOf. -/
def FR (P : Nat → Prop) (σ σ' : AH) : Prop := hc σ ≤ hc σ' ∧ hv σ ≤ hv σ' ∧ (∀ a x, hs σ a = some x → hs σ' a = some x) ∧ ∀ a, ¬ P a → gi σ' a = gi σ a ∧ gj σ' a = gj σ a ∧ gr σ' a = gr σ a ∧ gd σ' a = gd σ a
theorem FR.refl (P : Nat → Prop) (σ : AH) : FR P σ σ := ⟨Nat.le_refl _, Nat.le_refl _, fun _ _ h => h, fun _ _ => ⟨rfl, rfl, rfl, rfl⟩⟩
theorem FR.trans {P : Nat → Prop} {σ σ1 σ2 : AH} (h : FR P σ σ1) (k : FR P σ1 σ2) : FR P σ σ2 :=
  ⟨Nat.le_trans h.1 k.1, Nat.le_trans h.2.1 k.2.1, fun a x e => k.2.2.1 a x (h.2.2.1 a x e), fun a ha => by
    obtain ⟨h1, h2, h3, h4⟩ := h.2.2.2 a ha
    obtain ⟨k1, k2, k3, k4⟩ := k.2.2.2 a ha
    exact ⟨k1.trans h1, k2.trans h2, k3.trans h3, k4.trans h4⟩⟩
theorem FR.mono {P Q : Nat → Prop} {σ σ' : AH} (h : FR P σ σ') (hq : ∀ a, P a → Q a) : FR Q σ σ' := ⟨h.1, h.2.1, h.2.2.1, fun a ha => h.2.2.2 a (fun z => ha (hq a z))⟩
theorem FR.gh {P : Nat → Prop} {σ σ' : AH} (h : FR P σ σ') {a : Nat} {x : Nat × Nat} (e : hs σ a = some x) : hs σ' a = some x := h.2.2.1 a x e
theorem FR.gi {P : Nat → Prop} {σ σ' : AH} (h : FR P σ σ') {a : Nat} (e : ¬ P a) : gi σ' a = gi σ a := (h.2.2.2 a e).1
theorem FR.gj {P : Nat → Prop} {σ σ' : AH} (h : FR P σ σ') {a : Nat} (e : ¬ P a) : gj σ' a = gj σ a := (h.2.2.2 a e).2.1
theorem FR.gr {P : Nat → Prop} {σ σ' : AH} (h : FR P σ σ') {a : Nat} (e : ¬ P a) : gr σ' a = gr σ a := (h.2.2.2 a e).2.2.1
theorem FR.rowI {P : Nat → Prop} (σ : AH) {a : Nat} (f : Nat → Int32) (h : P a) : FR P σ (rowI σ a f) := ⟨Nat.le_refl _, Nat.le_refl _, fun _ _ e => e, fun b hb => ⟨gi_rown σ f (fun z => hb (z ▸ h)), rfl, rfl, rfl⟩⟩
theorem FR.rowJ {P : Nat → Prop} (σ : AH) {a : Nat} (f : Nat → Int64) (h : P a) : FR P σ (rowJ σ a f) := ⟨Nat.le_refl _, Nat.le_refl _, fun _ _ e => e, fun b hb => ⟨rfl, gj_rown σ f (fun z => hb (z ▸ h)), rfl, rfl⟩⟩
theorem FR.rowR {P : Nat → Prop} (σ : AH) {a : Nat} (f : Nat → Option Nat) (h : P a) : FR P σ (rowR σ a f) := ⟨Nat.le_refl _, Nat.le_refl _, fun _ _ e => e, fun b hb => ⟨rfl, rfl, up_ne _ _ (fun z => hb (z ▸ h)), rfl⟩⟩
theorem FR.setI {P : Nat → Prop} (σ : AH) {a : Nat} (i : Nat) (x : Int32) (h : P a) : FR P σ (setI σ a i x) := FR.rowI σ _ h
theorem FR.setJ {P : Nat → Prop} (σ : AH) {a : Nat} (i : Nat) (x : Int64) (h : P a) : FR P σ (setJ σ a i x) := FR.rowJ σ _ h
theorem FR.setR {P : Nat → Prop} (σ : AH) {a : Nat} (i : Nat) (x : Option Nat) (h : P a) : FR P σ (setR σ a i x) := FR.rowR σ _ h
theorem FR.mk {Γ : Gm} {P : Nat → Prop} {σ : AH} (k n : Nat) (W : WF Γ σ) (h : P (lo Γ + hc σ)) : FR P σ (mk σ (lo Γ + hc σ) k n) := by
  refine ⟨Nat.le_succ _, Nat.le_add_right _ _, fun a x e => ?_, fun b hb => ?_⟩
  · have : a ≠ lo Γ + hc σ := by have := W.1 a x e; omega
    rw [hs_mk, up_ne _ _ this]; exact e
  · have : b ≠ lo Γ + hc σ := fun z => hb (z ▸ h)
    exact ⟨up_ne _ _ this, up_ne _ _ this, up_ne _ _ this, up_ne _ _ this⟩
theorem FR.thr (P : Nat → Prop) (σ : AH) : FR P σ (thr σ) := ⟨Nat.le_succ _, Nat.le_add_right _ _, fun _ _ e => e, fun _ _ => ⟨rfl, rfl, rfl, rfl⟩⟩
theorem FR.chg {I J P : Nat → Prop} {σ σ' : AH} (h : Chg I J σ σ') (hI : ∀ a, I a → P a) (hJ : ∀ a, J a → P a) : FR P σ σ' :=
  ⟨Nat.le_of_eq h.1.symm, Nat.le_of_eq h.2.1.symm, fun a x e => h.gh e, fun a ha => ⟨h.gi (fun z => ha (hI a z)), h.gj (fun z => ha (hJ a z)), congrFun h.2.2.2.1 a, congrFun h.2.2.2.2.1 a⟩⟩
/-- where a key's search begins, of M places -/
def hsh (k : Int64) (M : Nat) : Nat := ((Int64.toInt32 ((Int64.toUInt64 (k * (-7046029254386353131)) >>> ((Int32.toInt64 40).toUInt64 &&& Int64.toUInt64 63)).toInt64)) &&& (nI M - 1)).toBitVec.toNat
theorem hsh_spec (k : Int64) (j : Nat) (hj : j < 31) : ((Int64.toInt32 ((Int64.toUInt64 (k * (-7046029254386353131)) >>> ((Int32.toInt64 40).toUInt64 &&& Int64.toUInt64 63)).toInt64)) &&& (nI (2 ^ j) - 1)) = nI (hsh k (2 ^ j)) ∧ hsh k (2 ^ j) < 2 ^ j := by
  unfold hsh
  generalize (Int64.toInt32 ((Int64.toUInt64 (k * (-7046029254386353131)) >>> ((Int32.toInt64 40).toUInt64 &&& Int64.toUInt64 63)).toInt64)) = x
  obtain ⟨n, hn, rfl⟩ := wb_of32 x
  have e : nI (2 ^ j) - 1 = nI (2 ^ j - 1) := pk_sub (b := 1) (Nat.two_pow_pos j)
  rw [e, fa_mask]
  have hp : 2 ^ j < 2 ^ 32 := Nat.pow_lt_pow_right (by decide) (by omega)
  have hm := Nat.mod_lt n (Nat.two_pow_pos j)
  have e2 : (nI (n % 2 ^ j)).toBitVec.toNat = n % 2 ^ j := by
    show (BitVec.ofNat 32 _).toNat = _
    rw [BitVec.toNat_ofNat]
    exact Nat.mod_eq_of_lt (by omega)
  rw [e2]
  exact ⟨rfl, hm⟩
/-- a table of places: pl holds the numbers 2 .. n-1, found by their keys ks -/
def HT (pl : Nat → Int32) (ks : Nat → Int64) (n M : Nat) : Prop :=
  (∀ p, p < M → pl p = 0 ∨ ∃ i, 2 ≤ i ∧ i < n ∧ pl p = nI i) ∧ (∀ p q, p < M → q < M → pl p = pl q → pl p ≠ 0 → p = q) ∧ (∀ i, 2 ≤ i → i < n → ∃ t, t < M ∧ pl ((hsh (ks i) M + t) % M) = nI i ∧ ∀ s, s < t → pl ((hsh (ks i) M + s) % M) ≠ 0)
theorem HT.keys {pl : Nat → Int32} {ks ks' : Nat → Int64} {n M : Nat} (h : HT pl ks n M) (e : ∀ i, i < n → ks' i = ks i) : HT pl ks' n M :=
  ⟨h.1, h.2.1, fun i h2 hn => by rw [e i hn]; exact h.2.2 i h2 hn⟩
theorem HT.empty (pl : Nat → Int32) (ks : Nat → Int64) (M : Nat) (h : ∀ p, p < M → pl p = 0) : HT pl ks 2 M :=
  ⟨fun p hp => Or.inl (h p hp), fun p q hp hq e hne => absurd (h p hp) hne, fun i h2 hn => absurd hn (by omega)⟩
/-- the place p is free, and it is where the key belongs -/
def freeAt (pl : Nat → Int32) (k : Int64) (M p : Nat) : Prop := pl p = 0 ∧ ∃ t, t < M ∧ p = (hsh k M + t) % M ∧ ∀ s, s < t → pl ((hsh k M + s) % M) ≠ 0
theorem HT.insert {pl : Nat → Int32} {ks : Nat → Int64} {n M p : Nat} (hn : 2 ≤ n) (hn2 : n < 2 ^ 31) (hp : p < M) (h : HT pl ks n M) (f : freeAt pl (ks n) M p) : HT (up pl p (nI n)) ks (n + 1) M := by
  obtain ⟨f1, t, ht, ep, hs⟩ := f
  have hM : 0 < M := by omega
  have nz : nI n ≠ 0 := nI_ne0 (by omega) hn2
  have keep : ∀ q, pl q ≠ 0 → up pl p (nI n) q ≠ 0 := by
    intro q hq
    by_cases c : q = p
    · rw [c, up_same]; exact nz
    · rw [up_ne _ _ c]; exact hq
  have neq : ∀ q, q < M → q ≠ p → pl q ≠ nI n := by
    intro q hq hqp e
    rcases h.1 q hq with z | ⟨i, h2, h3, z⟩
    · exact nz (e.symm.trans z)
    · have := (nI_eq (a := i) (b := n) (by omega) hn2).mp (z.symm.trans e)
      omega
  refine ⟨fun q hq => ?_, fun a b ha hb e hne => ?_, fun i h2 hi => ?_⟩
  · by_cases c : q = p
    · exact Or.inr ⟨n, hn, by omega, by rw [c, up_same]⟩
    · rw [up_ne _ _ c]
      rcases h.1 q hq with z | ⟨i, h2, h3, z⟩
      · exact Or.inl z
      · exact Or.inr ⟨i, h2, by omega, z⟩
  · by_cases c : a = p
    · by_cases c2 : b = p
      · rw [c, c2]
      · rw [c, up_same, up_ne _ _ c2] at e
        exact absurd e.symm (neq b hb c2)
    · by_cases c2 : b = p
      · rw [c2, up_same, up_ne _ _ c] at e
        exact absurd e (neq a ha c)
      · rw [up_ne _ _ c, up_ne _ _ c2] at e
        rw [up_ne _ _ c] at hne
        exact h.2.1 a b ha hb e hne
  · by_cases c : i = n
    · subst c
      exact ⟨t, ht, by rw [← ep, up_same], fun s hs2 => keep _ (hs s hs2)⟩
    · obtain ⟨t', ht', h3, h4⟩ := h.2.2 i h2 (by omega)
      refine ⟨t', ht', ?_, fun s hs2 => keep _ (h4 s hs2)⟩
      have iz : nI i ≠ 0 := nI_ne0 (by omega) (by omega)
      have : (hsh (ks i) M + t') % M ≠ p := fun z => by rw [z, f1] at h3; exact iz h3.symm
      rw [up_ne _ _ this]; exact h3
/-- some place is free -/
theorem HT.room {pl : Nat → Int32} {ks : Nat → Int64} {n M : Nat} (hn2 : n < 2 ^ 31) (h : HT pl ks n M) (hM : n < M + 2) (hM0 : 0 < M) : ∃ p, p < M ∧ pl p = 0 := by
  by_cases c : ∃ p, p < M ∧ pl p = 0
  · exact c
  · exfalso
    have hv : ∀ p, p < M → ∃ i, 2 ≤ i ∧ i < n ∧ pl p = nI i := fun p hp => by
      rcases h.1 p hp with z | z
      · exact absurd ⟨p, hp, z⟩ c
      · exact z
    have := fb_holes (n - 2) M (fun p => (pl p).toBitVec.toNat - 2) (fun p hp => ?_) (fun p q hpq hq e => ?_)
    · omega
    · obtain ⟨i, h1, h2, h3⟩ := hv p hp
      have : (nI i).toBitVec.toNat = i := by
        show (BitVec.ofNat 32 i).toNat = i
        rw [BitVec.toNat_ofNat]; omega
      rw [h3, this]; omega
    · obtain ⟨i, h1, h2, h3⟩ := hv p (by omega)
      obtain ⟨j, j1, j2, j3⟩ := hv q hq
      have ti : ∀ i, i < n → (nI i).toBitVec.toNat = i := by
        intro i hi
        show (BitVec.ofNat 32 i).toNat = i
        rw [BitVec.toNat_ofNat]; omega
      rw [h3, j3, ti i h2, ti j j2] at e
      have ij : i = j := by omega
      have := h.2.1 p q (by omega) hq (by rw [h3, j3, ij]) (by rw [h3]; exact nI_ne0 (by omega) (by omega))
      omega
theorem md_succ {a M : Nat} (hM : 0 < M) : (a % M + 1) % M = (a + 1) % M := by rw [Nat.mod_add_mod]
theorem placeOf_R {Γ : Gm} {d : Nat} {σ : AH} {dg ke pl cap n j : Nat} {key : Int64} (h0 : hs σ dg = some (3, 8)) (h1 : gr σ dg 1 = some ke) (h4 : gr σ dg 4 = some pl) (hk : hs σ ke = some (23, cap)) (hp : hs σ pl = some (22, 2 ^ j)) (hj : j < 28) (hn : n ≤ cap) (hc : cap < 2 ^ 28) (hnM : n < 2 ^ j + 2) (T : HT (gi σ pl) (gj σ ke) n (2 ^ j)) : RI Γ d MX3_placeOf [.ref dg, .long key] σ (fun r σ' => σ' = σ ∧ ∃ p, p < 2 ^ j ∧ r = nI p ∧ ((freeAt (gi σ pl) key (2 ^ j) p ∧ ∀ i, 2 ≤ i → i < n → gj σ ke i ≠ key) ∨ ∃ i, 2 ≤ i ∧ i < n ∧ gi σ pl p = nI i ∧ gj σ ke i = key)) := by
  have hM : 2 ^ j < 2 ^ 28 := Nat.pow_lt_pow_right (by decide) hj
  have M0 := Nat.two_pow_pos j
  obtain ⟨e0, b0⟩ := hsh_spec key j (by omega)
  refine eX3_placeOf ⟨h0, pl, h4, 2 ^ j, hp, ?_⟩
  rw [e0, show nI (2 ^ j) - 1 = nI (2 ^ j - 1) from pk_sub (b := 1) M0]
  obtain ⟨z, hz, ez⟩ := T.room (by omega) hnM M0
  -- the walk from the first place; some place ahead is free
  have main : ∀ m t, t + m = 2 ^ j → (∀ s, s < t → gi σ pl ((hsh key (2 ^ j) + s) % 2 ^ j) ≠ 0) → (∀ i, 2 ≤ i → i < n → gj σ ke i = key → ∀ s, s < t → gi σ pl ((hsh key (2 ^ j) + s) % 2 ^ j) ≠ nI i) → EV Γ MX3_placeOf d 24 [some (.ref dg), some (.long key), none, some (.int (nI (2 ^ j - 1))), some (.int (nI ((hsh key (2 ^ j) + t) % 2 ^ j))), some (.int (nI t)), none] [] σ (fun o σ' => ∃ r : Int32, o = .inl (some (.int r)) ∧ σ' = σ ∧ ∃ p, p < 2 ^ j ∧ r = nI p ∧ ((freeAt (gi σ pl) key (2 ^ j) p ∧ ∀ i, 2 ≤ i → i < n → gj σ ke i ≠ key) ∨ ∃ i, 2 ≤ i ∧ i < n ∧ gi σ pl p = nI i ∧ gj σ ke i = key)) := by
    intro m
    induction m with
    | zero =>
      intro t ht hs _
      exfalso
      -- the free place lies t' steps ahead
      have : ∃ s, s < 2 ^ j ∧ (hsh key (2 ^ j) + s) % 2 ^ j = z := by
        rcases Nat.lt_or_ge z (hsh key (2 ^ j)) with g | g
        · exact ⟨z + 2 ^ j - hsh key (2 ^ j), by omega, by rw [show hsh key (2 ^ j) + (z + 2 ^ j - hsh key (2 ^ j)) = z + 2 ^ j by omega, Nat.add_mod_right, Nat.mod_eq_of_lt hz]⟩
        · exact ⟨z - hsh key (2 ^ j), by omega, by rw [show hsh key (2 ^ j) + (z - hsh key (2 ^ j)) = z by omega, Nat.mod_eq_of_lt hz]⟩
      obtain ⟨s, hs1, hs2⟩ := this
      exact hs s (by omega) (by rw [hs2]; exact ez)
    | succ m ih =>
      intro t ht hs hno
      have hq := Nat.mod_lt (hsh key (2 ^ j) + t) M0
      generalize hqq : (hsh key (2 ^ j) + t) % 2 ^ j = q at hq
      refine gX3_placeOf_24 ⟨fun c => absurd ((nI_ltI (by omega) (by omega)).mp c) (by omega), fun _ => ⟨h0, pl, h4, 2 ^ j, hp, q, IXn hq (by omega), fun c => ?_, fun c => ⟨ke, h1, cap, hk, ?_⟩⟩⟩
      · refine ⟨_, rfl, rfl, q, hq, rfl, Or.inl ⟨⟨c, t, by omega, hqq.symm, hs⟩, fun i h2 hi ek => ?_⟩⟩
        obtain ⟨t', ht', w1, w2⟩ := T.2.2 i h2 hi
        rw [ek] at w1 w2
        rcases Nat.lt_trichotomy t' t with g | g | g
        · exact hno i h2 hi ek t' g w1
        · rw [g, hqq, c] at w1
          exact nI_ne0 (by omega) (by omega) w1.symm
        · exact w2 t g (by rw [hqq]; exact c)
      · rcases T.1 q hq with w | ⟨i, h2, hi, w⟩
        · exact absurd w c
        · rw [w]
          refine ⟨i, IXn (by omega) (by omega), ?_⟩
          rw [cmp0]
          refine ⟨fun ne => ?_, fun e => ⟨_, rfl, rfl, q, hq, rfl, Or.inr ⟨i, h2, hi, w, e⟩⟩⟩
          have e2 : (nI q + 1) &&& nI (2 ^ j - 1) = nI ((hsh key (2 ^ j) + (t + 1)) % 2 ^ j) := by
            rw [nI_1, fa_mask, ← hqq, md_succ M0, Nat.add_assoc]
          rw [e2, nI_1]
          refine ih (t + 1) (by omega) (fun s hs2 => ?_) (fun i' h2' hi' ek s hs2 => ?_)
          · by_cases g : s = t
            · rw [g, hqq]; exact c
            · exact hs s (by omega)
          · by_cases g : s = t
            · rw [g, hqq, w]
              intro e
              have := (nI_eq (a := i) (b := i') (by omega) (by omega)).mp e
              exact ne ((cmp0 _ _).mpr (by rw [this]; exact ek))
            · exact hno i' h2' hi' ek s (by omega)
  have := main (2 ^ j) 0 (by omega) (fun s hs => absurd hs (by omega)) (fun _ _ _ _ s hs => absurd hs (by omega))
  rw [Nat.add_zero, Nat.mod_eq_of_lt b0] at this
  exact this

