/-! ROWS of Heap. -/
def swp (f : Nat → Int32) (a b : Nat) : Nat → Int32 := up (up f a (f b)) b (f a)
theorem swp_l {f : Nat → Int32} {a b : Nat} (h : a ≠ b) : swp f a b a = f b := by unfold swp; rw [up_ne _ _ h, up_same]
theorem swp_r (f : Nat → Int32) (a b : Nat) : swp f a b b = f a := up_same _ _ _
theorem swp_o {f : Nat → Int32} {a b i : Nat} (h1 : i ≠ a) (h2 : i ≠ b) : swp f a b i = f i := by unfold swp; rw [up_ne _ _ h2, up_ne _ _ h1]
/-- the values in the first n places, each once -/
def hasV (f : Nat → Int32) (n : Nat) (v : Int32) : Prop := ∃ i, i < n ∧ f i = v
def injV (f : Nat → Int32) (n : Nat) : Prop := ∀ i j, i < n → j < n → f i = f j → i = j
def sameV (n : Nat) (f g : Nat → Int32) : Prop := (∀ v, hasV f n v ↔ hasV g n v) ∧ (injV f n → injV g n) ∧ ∀ i, n ≤ i → g i = f i
theorem sameV.refl (n : Nat) (f : Nat → Int32) : sameV n f f := ⟨fun _ => Iff.rfl, id, fun _ _ => rfl⟩
theorem sameV.trans {n : Nat} {f g h : Nat → Int32} (a : sameV n f g) (b : sameV n g h) : sameV n f h := ⟨fun v => (a.1 v).trans (b.1 v), fun z => b.2.1 (a.2.1 z), fun i hi => (b.2.2 i hi).trans (a.2.2 i hi)⟩
theorem sameV.exch {n a b : Nat} (f : Nat → Int32) (ha : a < n) (hb : b < n) (hab : a ≠ b) : sameV n f (swp f a b) := by
  refine ⟨fun v => ⟨?_, ?_⟩, ?_, fun i hi => swp_o (by omega) (by omega)⟩
  · rintro ⟨i, hi, e⟩
    by_cases q : i = a
    · exact ⟨b, hb, by rw [swp_r, ← q, e]⟩
    · by_cases q2 : i = b
      · exact ⟨a, ha, by rw [swp_l hab, ← q2, e]⟩
      · exact ⟨i, hi, by rw [swp_o q q2, e]⟩
  · rintro ⟨i, hi, e⟩
    by_cases q : i = a
    · exact ⟨b, hb, by rw [q, swp_l hab] at e; exact e⟩
    · by_cases q2 : i = b
      · exact ⟨a, ha, by rw [q2, swp_r] at e; exact e⟩
      · exact ⟨i, hi, by rw [swp_o q q2] at e; exact e⟩
  · intro z i j hi hj e
    have key : ∀ i, i < n → ∃ k, k < n ∧ swp f a b i = f k ∧ k = (if i = a then b else if i = b then a else i) := by
      intro i hi
      by_cases q : i = a
      · exact ⟨b, hb, by rw [q, swp_l hab], by rw [if_pos q]⟩
      · by_cases q2 : i = b
        · exact ⟨a, ha, by rw [q2, swp_r], by rw [if_neg q, if_pos q2]⟩
        · exact ⟨i, hi, swp_o q q2, by rw [if_neg q, if_neg q2]⟩
    obtain ⟨k, hk, ek, qk⟩ := key i hi
    obtain ⟨l, hl, el, ql⟩ := key j hj
    have := z k l hk hl (by rw [← ek, ← el, e])
    rw [qk, ql] at this
    by_cases q1 : i = a <;> by_cases q2 : i = b <;> by_cases q3 : j = a <;> by_cases q4 : j = b <;> simp_all
/-- a heap from place s on: no number is greater than those below it -/
def hpf (s n : Nat) (f : Nat → Int32) : Prop := ∀ i c, s ≤ i → c < n → (c = 2 * i + 1 ∨ c = 2 * i + 2) → f i ≤ f c
/-- .. save at one place -/
def hpx (s n k : Nat) (f : Nat → Int32) : Prop := (∀ i c, s ≤ i → i ≠ k → c < n → (c = 2 * i + 1 ∨ c = 2 * i + 2) → f i ≤ f c) ∧ ∀ p c, s ≤ p → (k = 2 * p + 1 ∨ k = 2 * p + 2) → c < n → (c = 2 * k + 1 ∨ c = 2 * k + 2) → f p ≤ f c
theorem i_le (a b : Int32) : a ≤ b ↔ a.toInt ≤ b.toInt := Int32.le_iff_toInt_le
theorem i_lt (a b : Int32) : a < b ↔ a.toInt < b.toInt := Int32.lt_iff_toInt_lt
theorem hpx_swp {s n k c : Nat} {f : Nat → Int32} (h : hpx s n k f) (hsk : s ≤ k) (hc : c < n) (hk : c = 2 * k + 1 ∨ c = 2 * k + 2) (hm : ∀ c', c' < n → (c' = 2 * k + 1 ∨ c' = 2 * k + 2) → f c ≤ f c') (hlt : f c < f k) : hpx s n c (swp f k c) := by
  have hkc : k ≠ c := by omega
  refine ⟨fun i x hi hic hx hr => ?_, fun p x hp hpc hx hr => ?_⟩
  · by_cases q : i = k
    · subst q
      rw [swp_l hkc]
      by_cases q2 : x = c
      · rw [q2, swp_r]
        rw [i_lt] at hlt
        rw [i_le]; omega
      · rw [swp_o (by omega) q2]
        exact hm x hx hr
    · rw [swp_o q hic]
      by_cases q2 : x = k
      · rw [q2, swp_l hkc]
        exact h.2 i c hi (by omega) hc hk
      · have : x ≠ c := by omega
        rw [swp_o q2 this]
        exact h.1 i x hi q hx hr
  · have : p = k := by omega
    subst this
    rw [swp_l hkc, swp_o (by omega) (by omega)]
    exact h.1 c x (by omega) (by omega) hx hr
theorem sink_R {Γ : Gm} {d : Nat} {σ : AH} {a N s n : Nat} (ha : hs σ a = some (22, N)) (hN : N < 2 ^ 28) (hn : n ≤ N) (hsn : s < N) (hx : hpx s n s (gi σ a)) : RV Γ d MX5_sink [.ref a, .int (nI s), .int (nI n)] σ (fun σ' => ∃ f, σ' = rowI σ a f ∧ sameV n (gi σ a) f ∧ hpf s n f) := by
  refine eX5_sink ?_
  have dbl : ∀ k, ((2 : Int32) * nI k) + 1 = nI (2 * k + 1) := by
    intro k
    rw [show (2 : Int32) = nI 2 from rfl, pk_mul, nI_1]
  have main : ∀ j k, k + j = N → s ≤ k → k < N → ∀ f, sameV n (gi σ a) f → hpx s n k f → EV Γ MX5_sink d 9 [some (.ref a), none, some (.int (nI n)), some (.int (nI k)), some (.int (nI (2 * k + 1))), none] [] (rowI σ a f) (fun o σ' => o = .inl none ∧ ∃ f, σ' = rowI σ a f ∧ sameV n (gi σ a) f ∧ hpf s n f) := by
    intro j
    induction j using Nat.strongRecOn with
    | _ j IH =>
    intro k hk hsk hkN f hv hx
    have done : (∀ c, c < n → (c = 2 * k + 1 ∨ c = 2 * k + 2) → f k ≤ f c) → hpf s n f := by
      intro z i c hi hc hr
      by_cases q : i = k
      · subst q; exact z c hc hr
      · exact hx.1 i c hi q hc hr
    have at55 : ∀ c, c < n → (c = 2 * k + 1 ∨ c = 2 * k + 2) → (∀ c', c' < n → (c' = 2 * k + 1 ∨ c' = 2 * k + 2) → f c ≤ f c') → EV Γ MX5_sink d 55 [some (.ref a), none, some (.int (nI n)), some (.int (nI k)), some (.int (nI c)), none] [] (rowI σ a f) (fun o σ' => o = .inl none ∧ ∃ f, σ' = rowI σ a f ∧ sameV n (gi σ a) f ∧ hpf s n f) := by
      intro c hc hr hm
      refine gX5_sink_55 ⟨N, ha, k, IXn (by omega) (by omega), c, IXn (by omega) (by omega), fun z σ8 h8 σ11 h11 => ?_, fun z => ⟨rfl, f, rfl, hv, done (fun c' hc' hr' => ?_)⟩⟩
      · rw [gi_row] at z
        have hkc : k ≠ c := by omega
        rw [gi_row, setI_rowI] at h8
        rw [gi_row, h8, setI_rowI] at h11
        rw [h11, dbl]
        exact IH (N - c) (by omega) c (by omega) (by omega) (by omega) _ (hv.trans (sameV.exch f (by omega) hc hkc)) (hpx_swp hx hsk hc hr hm z)
      · rw [gi_row] at z
        have := hm c' hc' hr'
        rw [i_lt] at z
        rw [i_le] at this ⊢
        omega
    refine gX5_sink_9 ⟨fun z => ⟨rfl, f, rfl, hv, done (fun c hc hr => ?_)⟩, fun z => ⟨N, ha, fun z2 => ?_, fun z2 => ?_⟩⟩
    · have := (nI_leI (by omega) (by omega)).mp z; omega
    · have := (nI_leI (by omega) (by omega)).mp z2
      exact absurd ((nI_leI (by omega) (by omega)).mpr (by omega)) z
    · have c1 : 2 * k + 1 < n := by
        rcases Nat.lt_or_ge (2 * k + 1) n with q | q
        · exact q
        · exact absurd ((nI_leI (by omega) (by omega)).mpr q) z
      rw [nI_1]
      refine ⟨fun w => ?_, fun w => ⟨fun w2 => ?_, fun w2 => ?_⟩⟩
      · have := (nI_leI (by omega) (by omega)).mp w
        refine at55 (2 * k + 1) c1 (Or.inl rfl) (fun c' hc' hr' => ?_)
        have : c' = 2 * k + 1 := by omega
        rw [this, i_le]; omega
      · have := (nI_leI (by omega) (by omega)).mp w2
        exact absurd ((nI_leI (by omega) (by omega)).mpr (by omega)) w
      · have c2 : 2 * k + 1 + 1 < n := by
          rcases Nat.lt_or_ge (2 * k + 1 + 1) n with q | q
          · exact q
          · exact absurd ((nI_leI (by omega) (by omega)).mpr q) w
        refine ⟨2 * k + 1 + 1, IXn (by omega) (by omega), 2 * k + 1, IXn (by omega) (by omega), fun y => ?_, fun y => ?_⟩
        · rw [gi_row] at y
          refine at55 (2 * k + 1) c1 (Or.inl rfl) (fun c' hc' hr' => ?_)
          rcases hr' with e | e
          · rw [e, i_le]; exact Int.le_refl _
          · rw [e]; exact y
        · rw [gi_row] at y
          refine at55 (2 * k + 1 + 1) c2 (Or.inr rfl) (fun c' hc' hr' => ?_)
          rcases hr' with e | e
          · rw [e]
            rw [i_le] at y ⊢
            omega
          · rw [e, i_le]; exact Int.le_refl _
  rw [dbl]
  have := main (N - s) s (by omega) (Nat.le_refl _) hsn (gi σ a) (sameV.refl _ _) hx
  rw [rowI_self] at this
  exact this
theorem order_R {Γ : Gm} {d : Nat} {σ : AH} {a N n : Nat} (ha : hs σ a = some (22, N)) (hN : N < 2 ^ 28) (hn : n ≤ N) (hd : 1 ≤ d) : RV Γ d MX5_order [.ref a, .int (nI n)] σ (fun σ' => ∃ f, σ' = rowI σ a f ∧ sameV n (gi σ a) f ∧ hpf 0 n f) := by
  refine eX5_order ?_
  have e0 : nI n / 2 = nI (n / 2) := pk_div (d := 2) (by omega) (by decide) (by decide)
  rw [e0]
  have L : ∀ k, 2 * k ≤ n → ∀ f, sameV n (gi σ a) f → hpf k n f → EV Γ MX5_order d 6 [some (.ref a), some (.int (nI n)), some (.int (nI k - 1))] [] (rowI σ a f) (fun o σ' => o = .inl none ∧ ∃ f, σ' = rowI σ a f ∧ sameV n (gi σ a) f ∧ hpf 0 n f) := by
    intro k
    induction k with
    | zero => intro hk f hv hh; exact gX5_order_6 ⟨fun _ => ⟨rfl, f, rfl, hv, hh⟩, fun z => absurd (by decide) z⟩
    | succ k ih =>
      intro hk f hv hh
      rw [nI_pred]
      refine gX5_order_6 ⟨fun z => absurd z (nn0 (by omega)), fun _ => ?_⟩
      refine CV.of (d2 := 0) (sink_R (σ := rowI σ a f) ha hN hn (by omega) ?_) (by omega) (fun σ2 hw e2 => ?_)
      · rw [gi_row]
        exact ⟨fun i c hi hik hc hr => hh i c (by omega) hc hr, fun p c hp hkp hc hr => absurd hkp (by omega)⟩
      · obtain ⟨g, e2, h2, h3⟩ := e2
        rw [gi_row] at h2
        rw [rowI_rowI] at e2
        rw [e2, show nI k + (-1) = nI k - 1 from (Int32.sub_eq_add_neg _ _).symm]
        exact ih (by omega) g (hv.trans h2) h3
  have := L (n / 2) (by omega) (gi σ a) (sameV.refl _ _) (fun i c hi hc hr => absurd hc (by omega))
  rw [rowI_self] at this
  exact this
theorem heap_least {n : Nat} {f : Nat → Int32} (h : hpf 0 n f) : ∀ i, i < n → f 0 ≤ f i := by
  intro i
  induction i using Nat.strongRecOn with
  | _ i ih =>
  intro hi
  rcases Nat.eq_zero_or_pos i with z | z
  · rw [z, i_le]; omega
  · have h1 := ih ((i - 1) / 2) (by omega) (by omega)
    have h2 := h ((i - 1) / 2) i (by omega) hi (by omega)
    rw [i_le] at *
    omega
theorem takeLeast_R {Γ : Gm} {d : Nat} {σ : AH} {a N n : Nat} (ha : hs σ a = some (22, N)) (hN : N < 2 ^ 28) (hn : n + 1 ≤ N) (hd : 1 ≤ d) (hh : hpf 0 (n + 1) (gi σ a)) (hj : injV (gi σ a) (n + 1)) : RI Γ d MX5_takeLeast [.ref a, .int (nI (n + 1))] σ (fun r σ' => r = gi σ a 0 ∧ ∃ f, σ' = rowI σ a f ∧ hpf 0 n f ∧ injV f n ∧ ∀ v, hasV f n v ↔ (hasV (gi σ a) (n + 1) v ∧ v ≠ gi σ a 0)) := by
  generalize hg : gi σ a = g at hh hj
  refine eX5_takeLeast ⟨fun z => absurd z (nI_nle (by omega) (by omega)), fun _ => ⟨N, ha, fun _ => ⟨0, IXn (n := N) (j := 0) (by omega) (by omega), n, by rw [nI_pred]; exact IXn (by omega) (by omega), fun σ9 h9 => ?_⟩, fun z => absurd ((nI_leI (by omega) (by omega)).mpr hn) z⟩⟩
  rw [nI_pred, hg]
  have e9 : σ9 = rowI σ a (up g 0 (g n)) := by rw [h9]; unfold setI; rw [hg]
  have hx : hpx 0 n 0 (up g 0 (g n)) := by
    refine ⟨fun i c _ hi hc hr => ?_, fun p c _ hp _ _ => absurd hp (by omega)⟩
    rw [up_ne _ _ hi, up_ne _ _ (by omega)]
    exact hh i c (by omega) (by omega) hr
  refine CV.of (d2 := 0) (sink_R (σ := σ9) (s := 0) (n := n) (N := N) (by rw [e9]; exact ha) hN (by omega) (by omega) (by rw [e9, gi_row]; exact hx)) (by omega) (fun σ12 hw e12 => ?_)
  obtain ⟨f, e12, hv, hf⟩ := e12
  rw [e9, gi_row] at hv
  rw [e9, rowI_rowI] at e12
  have ju : injV (up g 0 (g n)) n := by
    intro i j hi hj2 e
    by_cases q : i = 0
    · by_cases q2 : j = 0
      · omega
      · rw [q, up_same, up_ne _ _ q2] at e
        have := hj n j (by omega) (by omega) e
        omega
    · by_cases q2 : j = 0
      · rw [q2, up_same, up_ne _ _ q] at e
        have := hj i n (by omega) (by omega) e
        omega
      · rw [up_ne _ _ q, up_ne _ _ q2] at e
        exact hj i j (by omega) (by omega) e
  refine ⟨_, rfl, rfl, f, e12, hf, hv.2.1 ju, fun v => ?_⟩
  rw [← hv.1 v]
  constructor
  · rintro ⟨i, hi, e⟩
    by_cases q : i = 0
    · rw [q, up_same] at e
      refine ⟨⟨n, by omega, e⟩, fun z => ?_⟩
      have := hj n 0 (by omega) (by omega) (by rw [e, z])
      omega
    · rw [up_ne _ _ q] at e
      refine ⟨⟨i, by omega, e⟩, fun z => ?_⟩
      have := hj i 0 (by omega) (by omega) (by rw [e, z])
      omega
  · rintro ⟨⟨i, hi, e⟩, hne⟩
    have i0 : i ≠ 0 := fun z => hne (by rw [← e, z])
    by_cases q : i = n
    · exact ⟨0, by omega, by rw [up_same, ← q, e]⟩
    · exact ⟨i, by omega, by rw [up_ne _ _ i0, e]⟩
