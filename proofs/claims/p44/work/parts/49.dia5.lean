/-! ROWS of Diagrams: the state of the tables with what they stand for; one node of a visit. -/
def keyOf (x : Nat × Nat × Nat) : Int64 := lN (keyN x.1 x.2.1 x.2.2)
def DV (σ : AH) (dg pa ke us me pl c nx : Nat) (K : Nat → Nat × Nat × Nat) (den : Nat → Nat → Bool) (cnt : Nat → Nat) (v : Nat) : Prop :=
  DG σ dg pa ke us me pl c nx ∧ (∀ i, 2 ≤ i → i < nx → gj σ ke i = keyOf (K i)) ∧ NT K nx den ∧ gi σ dg 6 = nI v ∧ (∀ i, 2 ≤ i → i < nx → gi σ us i = nI (cnt i)) ∧ (∀ i, nx ≤ i → cnt i = 0) ∧ (∀ i, 2 ≤ i → i < nx → ∃ w, w ≤ v ∧ gi σ me i = nI w) ∧ gi σ dg 7 = nI (ctp (fun i => 2 ≤ i ∧ 0 < cnt i) nx)
noncomputable def lowc (K : Nat → Nat × Nat × Nat) (n : Nat) : Nat := ctp (fun i => 2 ≤ i ∧ (K i).1 < 9) n
def code8 (g : Nat → Bool) : Nat := (if g 0 then 1 else 0) + 2 * ((if g 512 then 1 else 0) + 2 * ((if g 1024 then 1 else 0) + 2 * ((if g 1536 then 1 else 0) + 2 * ((if g 2048 then 1 else 0) + 2 * ((if g 2560 then 1 else 0) + 2 * ((if g 3072 then 1 else 0) + 2 * (if g 3584 then 1 else 0)))))))
theorem bit_eq {a b : Bool} {x y : Nat} (h : (if a then 1 else 0) + 2 * x = (if b then 1 else 0) + 2 * y) : a = b ∧ x = y := by
  cases a <;> cases b <;> simp at h ⊢ <;> omega
theorem code8_lt (g : Nat → Bool) : code8 g < 256 := by
  have b : ∀ a : Bool, (if a then 1 else 0) ≤ 1 := fun a => by cases a <;> decide
  unfold code8
  have h0 := b (g 0); have h1 := b (g 512); have h2 := b (g 1024); have h3 := b (g 1536); have h4 := b (g 2048); have h5 := b (g 2560); have h6 := b (g 3072); have h7 := b (g 3584)
  omega
theorem code8_inj {g h : Nat → Bool} (sg : sup g) (sh : sup h) (lg : lev 9 g) (lh : lev 9 h) (e : code8 g = code8 h) : g = h := by
  unfold code8 at e
  obtain ⟨e0, e⟩ := bit_eq e
  obtain ⟨e1, e⟩ := bit_eq e
  obtain ⟨e2, e⟩ := bit_eq e
  obtain ⟨e3, e⟩ := bit_eq e
  obtain ⟨e4, e⟩ := bit_eq e
  obtain ⟨e5, e⟩ := bit_eq e
  obtain ⟨e6, e⟩ := bit_eq e
  have e7 : g 3584 = h 3584 := by revert e; cases g 3584 <;> cases h 3584 <;> simp
  have out : ∀ (f : Nat → Bool), sup f → lev 9 f → ∀ m, f m = true → m = 0 ∨ m = 512 ∨ m = 1024 ∨ m = 1536 ∨ m = 2048 ∨ m = 2560 ∨ m = 3072 ∨ m = 3584 := by
    intro f sf lf m hm
    have h1 := sf m hm
    have h2 : m % 2 ^ 9 = 0 := mod_tb.mpr (lf m hm)
    omega
  funext m
  have tr : ∀ (a b : Nat → Bool), sup a → lev 9 a → (a 0 = b 0) → (a 512 = b 512) → (a 1024 = b 1024) → (a 1536 = b 1536) → (a 2048 = b 2048) → (a 2560 = b 2560) → (a 3072 = b 3072) → (a 3584 = b 3584) → a m = true → b m = true := by
    intro a b sa la a0 a1 a2 a3 a4 a5 a6 a7 hm
    rcases out a sa la m hm with q | q | q | q | q | q | q | q <;> subst q
    · rw [← a0]; exact hm
    · rw [← a1]; exact hm
    · rw [← a2]; exact hm
    · rw [← a3]; exact hm
    · rw [← a4]; exact hm
    · rw [← a5]; exact hm
    · rw [← a6]; exact hm
    · rw [← a7]; exact hm
  cases q : g m
  · cases q2 : h m
    · rfl
    · rw [tr h g sh lh e0.symm e1.symm e2.symm e3.symm e4.symm e5.symm e6.symm e7.symm q2] at q; exact absurd q (by decide)
  · exact (tr g h sg lg e0 e1 e2 e3 e4 e5 e6 e7 q).symm
theorem ctp_all {n : Nat} : ∀ k, ctp (fun i => k ≤ i) (k + n) = n := by
  intro k
  rw [ctp_split, ctp_none (fun x hx h => by omega), Nat.zero_add]
  induction n with
  | zero => rfl
  | succ n ih =>
    have : ctp (fun j => k ≤ k + j) (n + 1) = ctp (fun j => k ≤ k + j) n + (if bd (k ≤ k + n) then 1 else 0) := rfl
    rw [this, ih, bd_true.mpr (by omega), if_pos rfl]
/-- nodes with their top below 9 are counted one by one; the others stand for different families of three elements -/
theorem NT.size {K : Nat → Nat × Nat × Nat} {n : Nat} {den : Nat → Nat → Bool} (h : NT K n den) (hn : 2 ≤ n) : n ≤ 2 + lowc K n + 256 := by
  have e1 : ctp (fun i => 2 ≤ i) n = n - 2 := by
    have := ctp_all (n := n - 2) 2
    rwa [show 2 + (n - 2) = n by omega] at this
  have e2 : ctp (fun i => 2 ≤ i) n = ctp (fun i => (2 ≤ i ∧ (K i).1 < 9) ∨ (2 ≤ i ∧ 9 ≤ (K i).1)) n := ctp_congr (fun x _ => ⟨fun h => by rcases Nat.lt_or_ge (K x).1 9 with c | c; exact Or.inl ⟨h, c⟩; exact Or.inr ⟨h, c⟩, fun h => by rcases h with h | h <;> exact h.1⟩)
  have e3 := ctp_or (P := fun i => 2 ≤ i ∧ (K i).1 < 9) (Q := fun i => 2 ≤ i ∧ 9 ≤ (K i).1) (n := n) (fun x _ z => by omega)
  have e4 : ctp (fun i => 2 ≤ i ∧ 9 ≤ (K i).1) n ≤ ctp (fun _ => True) 256 := by
    refine ctp_inj (fun i => code8 (den i)) (fun i hi hp => ⟨code8_lt _, trivial⟩) (fun i j hi hj hp hq e => ?_)
    have L : ∀ i, i < n → 2 ≤ i → 9 ≤ (K i).1 → lev 9 (den i) := by
      intro i hi h2 h9
      obtain ⟨_, _, _, _, a5, a6, a7⟩ := h.2.2.1 i h2 hi
      rw [a7]
      exact lev_mono (nden_lev a5 a6) h9
    exact h.2.2.2.1 i j hi hj (code8_inj (h.2.2.2.2 i hi) (h.2.2.2.2 j hj) (L i hi hp.1 hp.2) (L j hj hq.1 hq.2) e)
  have e5 := ctp_le (fun _ => True) 256
  unfold lowc
  omega
/-- the node of two parts: its number, and the table with it -/
theorem node_R {Γ : Gm} {d : Nat} {σ : AH} {dg pa ke us me pl c nx t l h v : Nat} {K : Nat → Nat × Nat × Nat} {den : Nat → Nat → Bool} {cnt : Nat → Nat} (V : DV σ dg pa ke us me pl c nx K den cnt v) (hnx : nx < 2 ^ 20) (ht : t < 12) (hl : l < nx) (hh : h < nx) (h0 : h ≠ 0) (lL : lev (t + 1) (den l)) (lH : lev (t + 1) (den h)) (hd : 6 ≤ d) : RI Γ d MX3_numberOf [.ref dg, .int (nI t), .int (nI l), .int (nI h)] σ (fun r σ' => ∃ ke' us' me' pl' c' nx' K' den' id, r = nI id ∧ DV σ' dg pa ke' us' me' pl' c' nx' K' den' cnt v ∧ 2 ≤ id ∧ id < nx' ∧ den' id = nden t (den l) (den h) ∧ nx ≤ nx' ∧ (∀ i, i < nx → K' i = K i ∧ den' i = den i) ∧ lowc K' nx' ≤ lowc K nx + (if t < 9 then 1 else 0) ∧ (∀ i, i < nx → gi σ' me' i = gi σ me i) ∧ (∀ i, nx ≤ i → i < nx' → gi σ' me' i = 0) ∧ FR (dO dg ke us me pl (lo Γ + hc σ)) σ σ' ∧ hc σ' + 4 * c = hc σ + 4 * c' ∧ hv σ' + 5 * 2 ^ (c + 1) = hv σ + 5 * 2 ^ (c' + 1) ∧ (ke' = ke ∨ lo Γ + hc σ ≤ ke') ∧ (us' = us ∨ lo Γ + hc σ ≤ us') ∧ (me' = me ∨ lo Γ + hc σ ≤ me') ∧ (pl' = pl ∨ lo Γ + hc σ ≤ pl') ∧ c ≤ c') := by
  obtain ⟨D, Vk, Vn, Vv, Vu, Vc, Vm, Vi⟩ := V
  refine (numberOf_R D hnx ht (by omega) (by omega) hd).post (fun o σ' W' ⟨r, ho, hr⟩ => ?_)
  obtain ⟨ke', us', me', pl', c', nx', id, rfl, D', i2, il, ik, cs, pr, g6, g7, F, rc, rv, o1, o2, o3, o4, cc, nz⟩ := hr
  have kb : ∀ i, 2 ≤ i → i < nx → (K i).1 < 12 ∧ (K i).2.1 < 2 ^ 20 ∧ (K i).2.2 < 2 ^ 20 := fun i a b => by
    obtain ⟨a1, a2, a3, _⟩ := Vn.2.2.1 i a b
    exact ⟨a1, by omega, by omega⟩
  have kinj : ∀ i, 2 ≤ i → i < nx → keyOf (K i) = lN (keyN t l h) → K i = (t, l, h) := by
    intro i a b e
    obtain ⟨q1, q2, q3⟩ := kb i a b
    have := keyN_inj q2 q3 (by omega) (by omega) (lN_inj64 (keyN_lt q1 q2 q3) (keyN_lt ht (by omega) (by omega)) e)
    exact Prod.ext this.1 (Prod.ext this.2.1 this.2.2)
  have D12 : 2 ≤ nx := D.2.2.2.2.2.2.2.2.2.2.2.2.2.2.2.2.2.2.1
  rcases cs with e | ⟨e, e2⟩
  · subst e
    have kd : K id = (t, l, h) := kinj id i2 il (by rw [← Vk id i2 il, ← ik, (pr id il).1])
    refine ⟨nI id, ho, ke', us', me', pl', c', nx', K, den, id, rfl, ⟨D', fun i a b => by rw [(pr i b).1]; exact Vk i a b, Vn, by rw [g6]; exact Vv, fun i a b => by rw [(pr i b).2.1]; exact Vu i a b, Vc, fun i a b => by rw [(pr i b).2.2]; exact Vm i a b, by rw [g7]; exact Vi⟩, i2, il, Vn.found i2 il kd, Nat.le_refl _, fun i _ => ⟨rfl, rfl⟩, Nat.le_add_right _ _, fun i hi => (pr i hi).2.2, fun i a b => absurd b (by omega), F, rc, rv, o1, o2, o3, o4, cc⟩
  · subst e e2
    by_cases ex : ∃ i, 2 ≤ i ∧ i < id ∧ K i = (t, l, h)
    · -- the key would be there twice
      exfalso
      obtain ⟨i, a, b, e⟩ := ex
      have := D'.2.2.2.2.2.2.2.2.2.2.2.2.2.2.2.2.2.2.2.2.2.2.2.2 i id a (by omega) i2 il (by rw [(pr i b).1, Vk i a b, ik, e]; rfl)
      omega
    · have new : ∀ i, 2 ≤ i → i < id → K i ≠ (t, l, h) := fun i a b e => ex ⟨i, a, b, e⟩
      have z : gi σ' us' id = 0 ∧ gi σ' me' id = 0 := nz id (Nat.le_refl _) (by omega)
      have cz : cnt id = 0 := Vc id (Nat.le_refl _)
      refine ⟨nI id, ho, ke', us', me', pl', c', id + 1, up K id (t, l, h), up den id (nden t (den l) (den h)), id, rfl, ⟨D', fun i a b => ?_, Vn.add D12 ht hl hh h0 lL lH new, by rw [g6]; exact Vv, fun i a b => ?_, fun i a => Vc i (by omega), fun i a b => ?_, ?_⟩, i2, il, up_same _ _ _, by omega, fun i hi => ⟨up_ne _ _ (by omega), up_ne _ _ (by omega)⟩, ?_, fun i hi => (pr i hi).2.2, fun i a b => ?_, F, rc, rv, o1, o2, o3, o4, cc⟩
      · by_cases q : i = id
        · rw [q, ik, up_same]; rfl
        · rw [up_ne _ _ q, (pr i (by omega)).1]; exact Vk i a (by omega)
      · by_cases q : i = id
        · rw [q, z.1, cz]; rfl
        · rw [(pr i (by omega)).2.1]; exact Vu i a (by omega)
      · by_cases q : i = id
        · exact ⟨0, by omega, by rw [q, z.2]; rfl⟩
        · rw [(pr i (by omega)).2.2]; exact Vm i a (by omega)
      · rw [g7, Vi]
        apply congrArg nI
        have : ctp (fun i => 2 ≤ i ∧ 0 < cnt i) (id + 1) = ctp (fun i => 2 ≤ i ∧ 0 < cnt i) id + (if bd (2 ≤ id ∧ 0 < cnt id) then 1 else 0) := rfl
        rw [this, bd_false.mpr (by omega), if_neg (by decide)]; rfl
      · have : lowc (up K id (t, l, h)) (id + 1) = ctp (fun i => 2 ≤ i ∧ (up K id (t, l, h) i).1 < 9) id + (if bd (2 ≤ id ∧ (up K id (t, l, h) id).1 < 9) then 1 else 0) := rfl
        rw [this, ctp_congr (Q := fun i => 2 ≤ i ∧ (K i).1 < 9) (fun x hx => by rw [up_ne _ _ (by omega)]), up_same]
        unfold lowc
        by_cases q : t < 9
        · rw [if_pos q, bd_true.mpr ⟨i2, q⟩, if_pos rfl]
          exact Nat.le_refl _
        · rw [bd_false.mpr (fun z => q z.2), if_neg (by decide)]
          omega
      · have : i = id := by omega
        rw [this]; exact z.2

