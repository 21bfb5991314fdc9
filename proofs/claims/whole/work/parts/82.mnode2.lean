/-! ROWS of the model: its table of nodes, and a node in it where there is room. -/
/-- a table of slots: -1, or the number of a node, which is found from where its search begins -/
def MT (sl : Nat → Int32) (st : Nat → Nat) (n M : Nat) : Prop :=
  (∀ p, p < M → sl p = -1 ∨ ∃ i, i < n ∧ sl p = nI i) ∧ (∀ p q, p < M → q < M → sl p = sl q → sl p ≠ -1 → p = q) ∧ (∀ i, i < n → ∃ t, t < M ∧ sl ((st i + t) % M) = nI i ∧ ∀ s, s < t → sl ((st i + s) % M) ≠ -1)
theorem m1_nI {i : Nat} (h : i < 2 ^ 31) : nI i ≠ -1 := fun e => by
  have := congrArg Int32.toInt e
  rw [nI_toInt h, show (-1 : Int32).toInt = -1 by decide] at this
  omega
theorem MT.empty (sl : Nat → Int32) (st : Nat → Nat) (M : Nat) (h : ∀ p, p < M → sl p = -1) : MT sl st 0 M :=
  ⟨fun p hp => Or.inl (h p hp), fun p q hp hq e hne => absurd (h p hp) hne, fun i hn => absurd hn (by omega)⟩
theorem MT.cong {sl sl' : Nat → Int32} {st st' : Nat → Nat} {n M : Nat} (hM : 0 < M) (h : MT sl st n M) (e : ∀ p, p < M → sl' p = sl p) (e2 : ∀ i, i < n → st' i = st i) : MT sl' st' n M :=
  ⟨fun p hp => by rw [e p hp]; exact h.1 p hp, fun p q hp hq => by rw [e p hp, e q hq]; exact h.2.1 p q hp hq, fun i hn => by
    obtain ⟨t, ht, h3, h4⟩ := h.2.2 i hn
    rw [e2 i hn]
    exact ⟨t, ht, by rw [e _ (Nat.mod_lt _ hM)]; exact h3, fun s hs => by rw [e _ (Nat.mod_lt _ hM)]; exact h4 s hs⟩⟩
def freeM (sl : Nat → Int32) (s0 M p : Nat) : Prop := sl p = -1 ∧ ∃ t, t < M ∧ p = (s0 + t) % M ∧ ∀ s, s < t → sl ((s0 + s) % M) ≠ -1
theorem MT.insert {sl : Nat → Int32} {st : Nat → Nat} {n M p : Nat} (hn2 : n < 2 ^ 30) (hp : p < M) (h : MT sl st n M) (f : freeM sl (st n) M p) : MT (up sl p (nI n)) st (n + 1) M := by
  obtain ⟨f1, t, ht, ep, hs'⟩ := f
  have nz : nI n ≠ -1 := m1_nI (by omega)
  have keep : ∀ q, sl q ≠ -1 → up sl p (nI n) q ≠ -1 := by
    intro q hq
    by_cases c : q = p
    · rw [c, up_same]; exact nz
    · rw [up_ne _ _ c]; exact hq
  have neq : ∀ q, q < M → q ≠ p → sl q ≠ nI n := by
    intro q hq hqp e
    rcases h.1 q hq with z | ⟨i, h3, z⟩
    · exact nz (e.symm.trans z)
    · have := (nI_eq (a := i) (b := n) (by omega) (by omega)).mp (z.symm.trans e)
      omega
  refine ⟨fun q hq => ?_, fun a b ha hb e hne => ?_, fun i hi => ?_⟩
  · by_cases c : q = p
    · exact Or.inr ⟨n, by omega, by rw [c, up_same]⟩
    · rw [up_ne _ _ c]
      rcases h.1 q hq with z | ⟨i, h3, z⟩
      · exact Or.inl z
      · exact Or.inr ⟨i, by omega, z⟩
  · by_cases c : a = p
    · by_cases c2 : b = p
      · rw [c, c2]
      · rw [c, up_same, up_ne _ _ c2] at e
        exact absurd e.symm (neq b hb c2)
    · by_cases c2 : b = p
      · rw [c2, up_same, up_ne _ _ c] at e
        exact absurd e (neq a ha c)
      · rw [up_ne _ _ c, up_ne _ _ c2] at e
        rw [up_ne _ _ c] at hne
        exact h.2.1 a b ha hb e hne
  · by_cases c : i = n
    · subst c
      exact ⟨t, ht, by rw [← ep, up_same], fun s hs2 => keep _ (hs' s hs2)⟩
    · obtain ⟨t', ht', h3, h4⟩ := h.2.2 i (by omega)
      refine ⟨t', ht', ?_, fun s hs2 => keep _ (h4 s hs2)⟩
      have iz : nI i ≠ -1 := m1_nI (by omega)
      have : (st i + t') % M ≠ p := fun z => by rw [z, f1] at h3; exact iz h3.symm
      rw [up_ne _ _ this]; exact h3
theorem MT.room {sl : Nat → Int32} {st : Nat → Nat} {n M : Nat} (hn2 : n < 2 ^ 30) (h : MT sl st n M) (hM : n < M) : ∃ p, p < M ∧ sl p = -1 := by
  by_cases c : ∃ p, p < M ∧ sl p = -1
  · exact c
  · exfalso
    have hv' : ∀ p, p < M → ∃ i, i < n ∧ sl p = nI i := fun p hp => by
      rcases h.1 p hp with z | z
      · exact absurd ⟨p, hp, z⟩ c
      · exact z
    have := fb_holes n M (fun p => (sl p).toBitVec.toNat) (fun p hp => ?_) (fun p q hpq hq e => ?_)
    · omega
    · obtain ⟨i, h2, h3⟩ := hv' p hp
      show (sl p).toBitVec.toNat < n
      rw [h3, pk_tn (by omega)]; exact h2
    · obtain ⟨i, h2, h3⟩ := hv' p (by omega)
      obtain ⟨j, j2, j3⟩ := hv' q hq
      have e : (sl p).toBitVec.toNat = (sl q).toBitVec.toNat := e
      rw [h3, j3, pk_tn (by omega), pk_tn (by omega)] at e
      have := h.2.1 p q (by omega) hq (by rw [h3, j3, e]) (by rw [h3]; exact m1_nI (by omega))
      omega
def mhx (t l h : Nat) : Int32 := (((((nI t * 1000003) + (nI l * 8191)) + (nI h * 31)) * 40503).toUInt32 >>> (Int32.toUInt32 3 &&& Int32.toUInt32 31)).toInt32
def mst (k : Nat × Nat × Nat) (M : Nat) : Nat := (mhx k.1 k.2.1 k.2.2 &&& (nI M - 1)).toBitVec.toNat
theorem mst_spec (t l h j : Nat) (hj : j < 31) : (mhx t l h &&& (nI (2 ^ j) - 1)) = nI (mst (t, l, h) (2 ^ j)) ∧ mst (t, l, h) (2 ^ j) < 2 ^ j := by
  unfold mst
  show _ = nI ((mhx t l h &&& (nI (2 ^ j) - 1)).toBitVec.toNat) ∧ (mhx t l h &&& (nI (2 ^ j) - 1)).toBitVec.toNat < 2 ^ j
  generalize mhx t l h = x
  obtain ⟨n, hn, rfl⟩ := wb_of32 x
  have e : nI (2 ^ j) - 1 = nI (2 ^ j - 1) := pk_sub (b := 1) (Nat.two_pow_pos j)
  rw [e, fa_mask]
  have hp : 2 ^ j < 2 ^ 32 := Nat.pow_lt_pow_right (by decide) (by omega)
  have hm := Nat.mod_lt n (Nat.two_pow_pos j)
  rw [pk_tn (by omega)]
  exact ⟨rfl, hm⟩
def NTab (σ : AH) (mo tp lw hg sl c n : Nat) (Kr : Nat → Nat × Nat × Nat) : Prop :=
  hs σ mo = some (7, 27) ∧ gr σ mo 16 = some tp ∧ gr σ mo 17 = some lw ∧ gr σ mo 18 = some hg ∧ gr σ mo 19 = some sl ∧ hs σ tp = some (22, 2 ^ c) ∧ hs σ lw = some (22, 2 ^ c) ∧ hs σ hg = some (22, 2 ^ c) ∧ hs σ sl = some (22, 2 ^ (c + 2)) ∧ (tp ≠ lw ∧ tp ≠ hg ∧ tp ≠ sl ∧ lw ≠ hg ∧ lw ≠ sl ∧ hg ≠ sl) ∧ gi σ mo 20 = nI n ∧ n ≤ 2 ^ c ∧ 6 ≤ c ∧ c ≤ 20 ∧ (∀ i, i < n → gi σ tp i = nI (Kr i).1 ∧ gi σ lw i = nI (Kr i).2.1 ∧ gi σ hg i = nI (Kr i).2.2) ∧ MT (gi σ sl) (fun i => mst (Kr i) (2 ^ (c + 2))) n (2 ^ (c + 2)) ∧ ∀ i, i < n → (Kr i).1 < 12 ∧ (Kr i).2.1 < 2 ^ 20 ∧ (Kr i).2.2 < 2 ^ 20
theorem pr3 {a b c x y z : Nat} : (a, b, c) = (x, y, z) ↔ a = x ∧ b = y ∧ c = z := by simp
/-- what a new node writes -/
def newN (σ : AH) (mo tp lw hg sl n p t l h : Nat) : AH := setI (setI (setI (setI (setI σ sl p (nI n)) tp n (nI t)) lw n (nI l)) hg n (nI h)) mo 20 (nI (n + 1))
theorem nodeS_R {Γ : Gm} {d : Nat} {σ : AH} {mo tp lw hg sl c n t l h : Nat} {Kr : Nat → Nat × Nat × Nat} (N : NTab σ mo tp lw hg sl c n Kr) (ht : t < 12) (hl : l < 2 ^ 20) (hh : h < 2 ^ 20) (h0 : h ≠ 0)
    {Q : Int32 → AH → Prop} (found : ∀ i, i < n → Kr i = (t, l, h) → Q (nI (i + 2)) σ) (new : (∀ i, i < n → Kr i ≠ (t, l, h)) → ∀ p, p < 2 ^ (c + 2) → freeM (gi σ sl) (mst (t, l, h) (2 ^ (c + 2))) (2 ^ (c + 2)) p → n < 2 ^ c → Q (nI (n + 2)) (newN σ mo tp lw hg sl n p t l h))
    (full : n = 2 ^ c → CV Γ d MX9_grow [.ref mo] σ (fun σ1 => hs σ1 mo = some (7, 27) ∧ CI Γ d MX9_nodeOf [.ref mo, .int (nI t), .int (nI l), .int (nI h)] σ1 Q (fun _ _ => False)) (fun _ _ => False)) :
    RI Γ d MX9_nodeOf [.ref mo, .int (nI t), .int (nI l), .int (nI h)] σ Q := by
  obtain ⟨N0, N1, N2, N3, N4, N5, N6, N7, N8, ⟨m1, m2, m3, m4, m5, m6⟩, N9, N10, N11, N12, N13, N14, N15⟩ := N
  have hM : 2 ^ (c + 2) ≤ 2 ^ 22 := Nat.pow_le_pow_right (by decide) (by omega)
  have M0 := Nat.two_pow_pos (c + 2)
  have hMc : 2 ^ (c + 2) = 4 * 2 ^ c := by rw [Nat.pow_add]; omega
  have hcp := Nat.two_pow_pos c
  obtain ⟨e0, b0⟩ := mst_spec t l h (c + 2) (by omega)
  have o1 : tp ≠ mo := hs_ne N5 N0 (show (22 : Nat) ≠ 7 by decide)
  have o2 : lw ≠ mo := hs_ne N6 N0 (show (22 : Nat) ≠ 7 by decide)
  have o3 : hg ≠ mo := hs_ne N7 N0 (show (22 : Nat) ≠ 7 by decide)
  have o4 : sl ≠ mo := hs_ne N8 N0 (show (22 : Nat) ≠ 7 by decide)
  obtain ⟨z, hz, ez⟩ := N14.room (by omega) (by omega)
  -- at a free slot, or at the node itself
  have h111 : ∀ q, q < 2 ^ (c + 2) → ((freeM (gi σ sl) (mst (t, l, h) (2 ^ (c + 2))) (2 ^ (c + 2)) q ∧ ∀ i, i < n → Kr i ≠ (t, l, h)) ∨ ∃ i, i < n ∧ gi σ sl q = nI i ∧ Kr i = (t, l, h)) → EV Γ MX9_nodeOf d 111 [some (.ref mo), some (.int (nI t)), some (.int (nI l)), some (.int (nI h)), some (.int (nI q))] [] σ (fun oc σ' => ∃ r : Int32, oc = .inl (some (.int r)) ∧ Q r σ') := by
    intro q hq hcase
    refine gX9_nodeOf_111 ⟨N0, sl, N4, 2 ^ (c + 2), N8, q, IXn hq (by omega), fun w => ⟨tp, N1, 2 ^ c, N5, fun w2 σ14 e14 => ?_, fun w2 => ?_⟩, fun w => ?_⟩
    · rcases hcase with ⟨fr, nk⟩ | ⟨i, hi, ei, ek⟩
      · have lt : n < 2 ^ c := by
          rcases Nat.lt_or_ge n (2 ^ c) with v | v
          · exact v
          · exact absurd (by rw [N9, show n = 2 ^ c by omega]) w2
        rw [N9] at e14
        have g14 : gi σ14 mo = gi σ mo := by rw [e14, gi_setI_n _ _ _ (Ne.symm o4)]
        refine ⟨n, by rw [g14, N9]; exact IXn lt (by omega), fun σ23 e23 => ?_⟩
        have g23 : gi σ23 mo = gi σ mo := by rw [e23, gi_setI_n _ _ _ (Ne.symm o1), g14]
        refine ⟨lw, by rw [e23, e14]; exact N2, 2 ^ c, by rw [e23, e14]; exact N6, n, by rw [g23, N9]; exact IXn lt (by omega), fun σ36 e36 => ?_⟩
        have g36 : gi σ36 mo = gi σ mo := by rw [e36, gi_setI_n _ _ _ (Ne.symm o2), g23]
        refine ⟨hg, by rw [e36, e23, e14]; exact N3, 2 ^ c, by rw [e36, e23, e14]; exact N7, n, by rw [g36, N9]; exact IXn lt (by omega), fun σ51 e51 σ62 e62 => ?_⟩
        have g51 : gi σ51 mo = gi σ mo := by rw [e51, gi_setI_n _ _ _ (Ne.symm o3), g36]
        have g62 : gi σ62 mo 20 = nI (n + 1) := by rw [e62, gi_setI_s, up_same, g51, N9, nI_1]
        refine ⟨_, rfl, ?_⟩
        rw [g62, nI_1]
        have e : σ62 = newN σ mo tp lw hg sl n q t l h := by
          rw [e62, g51, N9, nI_1, e51, e36, e23, e14]; rfl
        rw [e]
        exact new nk q hq fr lt
      · rw [ei] at w; exact absurd w (nI_pos (by omega))
    · rw [N9] at w2
      have := (nI_eq (a := n) (b := 2 ^ c) (by omega) (by omega)).mp w2
      obtain hf := full this
      intro hw
      obtain ⟨d2, hd2, o, σ1, r1, w1, q1⟩ := hf hw
      refine ⟨d2, hd2, o, σ1, r1, w1, ?_⟩
      cases o with
      | inl v => exact ⟨q1.1, q1.2.1, fun hw2 => by
          obtain ⟨d3, hd3, o3', σ3, r3, w3', q3⟩ := q1.2.2 hw2
          refine ⟨d3, hd3, o3', σ3, r3, w3', ?_⟩
          cases o3' with
          | inl v3 => obtain ⟨r, hr, q3⟩ := q3; exact ⟨r, hr, r, rfl, q3⟩
          | inr E => exact q3.elim⟩
      | inr E => exact q1.elim
    · rcases hcase with ⟨fr, nk⟩ | ⟨i, hi, ei, ek⟩
      · rw [fr.1] at w; exact absurd (by decide : (-1 : Int32) < 0) w
      · refine ⟨_, rfl, ?_⟩
        rw [ei, show nI i + 2 = nI (i + 2) from nI_add i 2]
        exact found i hi ek
  have main : ∀ m s, s + m = 2 ^ (c + 2) → (∀ s', s' < s → gi σ sl ((mst (t, l, h) (2 ^ (c + 2)) + s') % 2 ^ (c + 2)) ≠ -1) → (∀ i, i < n → Kr i = (t, l, h) → ∀ s', s' < s → gi σ sl ((mst (t, l, h) (2 ^ (c + 2)) + s') % 2 ^ (c + 2)) ≠ nI i) → EV Γ MX9_nodeOf d 36 [some (.ref mo), some (.int (nI t)), some (.int (nI l)), some (.int (nI h)), some (.int (nI ((mst (t, l, h) (2 ^ (c + 2)) + s) % 2 ^ (c + 2))))] [] σ (fun oc σ' => ∃ r : Int32, oc = .inl (some (.int r)) ∧ Q r σ') := by
    generalize hS : mst (t, l, h) (2 ^ (c + 2)) = S at b0 h111
    intro m
    induction m with
    | zero =>
      intro s hms hs' _
      exfalso
      have : ∃ s, s < 2 ^ (c + 2) ∧ (S + s) % 2 ^ (c + 2) = z := by
        rcases Nat.lt_or_ge z S with g | g
        · exact ⟨z + 2 ^ (c + 2) - S, by omega, by rw [show S + (z + 2 ^ (c + 2) - S) = z + 2 ^ (c + 2) by omega, Nat.add_mod_right, Nat.mod_eq_of_lt hz]⟩
        · exact ⟨z - S, by omega, by rw [show S + (z - S) = z by omega, Nat.mod_eq_of_lt hz]⟩
      obtain ⟨s2, hs1, hs2⟩ := this
      exact hs' s2 (by omega) (by rw [hs2]; exact ez)
    | succ m ih =>
      intro s hms hs' hno
      have hq := Nat.mod_lt (S + s) M0
      generalize hqq : (S + s) % 2 ^ (c + 2) = q at hq
      have go : ∀ i, i < n → gi σ sl q = nI i → Kr i ≠ (t, l, h) → EV Γ MX9_nodeOf d 94 [some (.ref mo), some (.int (nI t)), some (.int (nI l)), some (.int (nI h)), some (.int (nI q))] [] σ (fun oc σ' => ∃ r : Int32, oc = .inl (some (.int r)) ∧ Q r σ') := by
        intro i hi ei nk
        refine gX9_nodeOf_94 ⟨N0, sl, N4, 2 ^ (c + 2), N8, ?_⟩
        have e2 : (nI q + 1) &&& (nI (2 ^ (c + 2)) - 1) = nI ((S + (s + 1)) % 2 ^ (c + 2)) := by
          rw [show nI (2 ^ (c + 2)) - 1 = nI (2 ^ (c + 2) - 1) from pk_sub (b := 1) M0, nI_1, fa_mask, ← hqq, md_succ M0, Nat.add_assoc]
        rw [e2]
        refine ih (s + 1) (by omega) (fun s' hs2 => ?_) (fun i' hi' ek s' hs2 => ?_)
        · by_cases g : s' = s
          · rw [g, hqq, ei]; exact m1_nI (by omega)
          · exact hs' s' (by omega)
        · by_cases g : s' = s
          · rw [g, hqq, ei]
            intro e
            have := (nI_eq (a := i) (b := i') (by omega) (by omega)).mp e
            exact nk (by rw [this]; exact ek)
          · exact hno i' hi' ek s' (by omega)
      refine gX9_nodeOf_36 ⟨N0, sl, N4, 2 ^ (c + 2), N8, q, IXn hq (by omega), fun w => h111 q hq (Or.inl ⟨⟨?_, s, by omega, hqq.symm, hs'⟩, fun i hi ek => ?_⟩), fun w => ?_⟩
      · rcases N14.1 q hq with v | ⟨i, hi, v⟩
        · exact v
        · rw [v] at w; exact absurd w (nI_pos (by omega))
      · obtain ⟨t', ht', w1, w2⟩ := N14.2.2 i hi
        have w1 : gi σ sl ((mst (Kr i) (2 ^ (c + 2)) + t') % 2 ^ (c + 2)) = nI i := w1
        have w2 : ∀ s, s < t' → gi σ sl ((mst (Kr i) (2 ^ (c + 2)) + s) % 2 ^ (c + 2)) ≠ -1 := w2
        rw [ek, hS] at w1 w2
        have fre : gi σ sl q = -1 := by
          rcases N14.1 q hq with v | ⟨i, hi, v⟩
          · exact v
          · rw [v] at w; exact absurd w (nI_pos (by omega))
        rcases Nat.lt_trichotomy t' s with g | g | g
        · exact hno i hi ek t' g w1
        · rw [g, hqq, fre] at w1
          exact m1_nI (by omega) w1.symm
        · exact w2 s g (by rw [hqq]; exact fre)
      · obtain ⟨i, hi, ei⟩ : ∃ i, i < n ∧ gi σ sl q = nI i := by
          rcases N14.1 q hq with v | v
          · rw [v] at w; exact absurd (by decide : (-1 : Int32) < 0) w
          · exact v
        obtain ⟨a1, a2, a3⟩ := N13 i hi
        obtain ⟨k1, k2, k3⟩ := N15 i hi
        rw [ei]
        have ix : IX (nI i) (2 ^ c) i := IXn (by omega) (by omega)
        refine ⟨tp, N1, 2 ^ c, N5, i, ix, fun v => go i hi ei (fun ek => v ?_), fun v => ⟨lw, N2, 2 ^ c, N6, i, ix, fun u => go i hi ei (fun ek => u ?_), fun u => ⟨hg, N3, 2 ^ c, N7, i, ix, fun x => h111 q hq (Or.inr ⟨i, hi, ei, ?_⟩), fun x => go i hi ei (fun ek => x ?_)⟩⟩⟩
        · rw [a1, ek]
        · rw [a2, ek]
        · rw [a1] at v
          rw [a2] at u
          rw [a3] at x
          have v := (nI_eq (by omega) (by omega)).mp v
          have u := (nI_eq (by omega) (by omega)).mp u
          have x := (nI_eq (by omega) (by omega)).mp x
          exact Prod.ext v (Prod.ext u x)
        · rw [a3, ek]
  refine eX9_nodeOf ⟨fun _ => ⟨N0, sl, N4, 2 ^ (c + 2), N8, ?_⟩, fun z => absurd z (nI_ne0 (by omega) (by omega))⟩
  have e0' : (((((((nI t * 1000003) + (nI l * 8191)) + (nI h * 31)) * 40503).toUInt32 >>> (Int32.toUInt32 3 &&& Int32.toUInt32 31)).toInt32) &&& (nI (2 ^ (c + 2)) - 1)) = nI (mst (t, l, h) (2 ^ (c + 2))) := e0
  rw [e0']
  have := main (2 ^ (c + 2)) 0 (by omega) (fun s hs' => absurd hs' (by omega)) (fun _ _ _ s hs' => absurd hs' (by omega))
  rw [Nat.add_zero, Nat.mod_eq_of_lt b0] at this
  exact this
