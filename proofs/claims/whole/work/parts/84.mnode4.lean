/-! ROWS of the model: a node with what it stands for; all parts of a family numbered. -/
/-- the model's table, and what its nodes stand for -/
def MG (σ : AH) (mo tp lw hg sl c n : Nat) (K : Nat → Nat × Nat × Nat) (den : Nat → Nat → Bool) : Prop := NTab σ mo tp lw hg sl c n (fun i => K (i + 2)) ∧ NT K (n + 2) den ∧ c ≤ 17
/-- the model's own frame while it counts nodes: other fields stay -/
def OF (mo : Nat) (P : Nat → Prop) (σ σ' : AH) : Prop := FR P σ σ' ∧ (∀ j, j ≠ 20 → gi σ' mo j = gi σ mo j) ∧ ∀ j, (j < 16 ∨ 20 ≤ j) → gr σ' mo j = gr σ mo j
theorem OF.refl (mo : Nat) (P : Nat → Prop) (σ : AH) : OF mo P σ σ := ⟨FR.refl _ _, fun _ _ => rfl, fun _ _ => rfl⟩
theorem OF.trans {mo : Nat} {P : Nat → Prop} {σ σ1 σ2 : AH} (h : OF mo P σ σ1) (k : OF mo P σ1 σ2) : OF mo P σ σ2 := ⟨h.1.trans k.1, fun j hj => (k.2.1 j hj).trans (h.2.1 j hj), fun j hj => (k.2.2 j hj).trans (h.2.2 j hj)⟩
theorem NF.of {mo tp lw hg sl b : Nat} {P : Nat → Prop} {σ σ' : AH} (h : NF mo tp lw hg sl b σ σ') (p : P mo ∧ P tp ∧ P lw ∧ P hg ∧ P sl) (q : ∀ a, b ≤ a → P a) : OF mo P σ σ' := by
  refine ⟨h.1.mono (fun a ha => ?_), h.2.1, h.2.2⟩
  rcases ha with z | z | z | z | z | z
  · rw [z]; exact p.1
  · rw [z]; exact p.2.1
  · rw [z]; exact p.2.2.1
  · rw [z]; exact p.2.2.2.1
  · rw [z]; exact p.2.2.2.2
  · exact q a z
theorem MG.inj {σ : AH} {mo tp lw hg sl c n : Nat} {K : Nat → Nat × Nat × Nat} {den : Nat → Nat → Bool} (M : MG σ mo tp lw hg sl c n K den) : ∀ i j, i < n → j < n → K (i + 2) = K (j + 2) → i = j := by
  intro i j hi hj e
  obtain ⟨-, T, -⟩ := M
  have a := T.2.2.1 (i + 2) (by omega) (by omega)
  have b := T.2.2.1 (j + 2) (by omega) (by omega)
  have := T.2.2.2.1 (i + 2) (j + 2) (by omega) (by omega) (by rw [a.2.2.2.2.2.2, b.2.2.2.2.2.2, e])
  omega
theorem up2 {K : Nat → Nat × Nat × Nat} {n : Nat} {x : Nat × Nat × Nat} : (fun i => up K (n + 2) x (i + 2)) = up (fun i => K (i + 2)) n x := by
  funext i
  show up K (n + 2) x (i + 2) = _
  by_cases q : i = n
  · rw [q, up_same, up_same]
  · rw [up_ne _ _ q, up_ne _ _ (by omega)]
theorem pw7 {c x y : Nat} (h : x = y + 7 * 2 ^ (c + 1)) : x + 7 * 2 ^ (c + 1) = y + 7 * 2 ^ (c + 1 + 1) := by
  have : 2 ^ (c + 1 + 1) = 2 * 2 ^ (c + 1) := by rw [Nat.pow_succ]; omega
  omega
theorem mnode_R {Γ : Gm} {d : Nat} {σ : AH} {P : Nat → Prop} {mo tp lw hg sl c n t l h : Nat} {K : Nat → Nat × Nat × Nat} {den : Nat → Nat → Bool} (M : MG σ mo tp lw hg sl c n K den) (hn : n < 2 ^ 17) (ht : t < 12) (hl : l < n + 2) (hh : h < n + 2) (lL : lev (t + 1) (den l)) (lH : lev (t + 1) (den h)) (p : P mo ∧ P tp ∧ P lw ∧ P hg ∧ P sl) (pq : ∀ a, lo Γ + hc σ ≤ a → P a) (hd : 6 ≤ d) :
    RI Γ d MX9_nodeOf [.ref mo, .int (nI t), .int (nI l), .int (nI h)] σ (fun r σ' => ∃ tp' lw' hg' sl' c' n' K' den' id, r = nI id ∧ MG σ' mo tp' lw' hg' sl' c' n' K' den' ∧ id < n' + 2 ∧ den' id = (if h = 0 then den l else nden t (den l) (den h)) ∧ n ≤ n' ∧ (∀ i, i < n + 2 → K' i = K i ∧ den' i = den i) ∧ (∀ i, n + 2 ≤ i → i < n' + 2 → h ≠ 0 ∧ i = id) ∧ (h ≠ 0 → 2 ≤ id) ∧ lowc K' (n' + 2) ≤ lowc K (n + 2) + (if t < 9 then 1 else 0) ∧ OF mo P σ σ' ∧ (P tp' ∧ P lw' ∧ P hg' ∧ P sl') ∧ hc σ' + 4 * c = hc σ + 4 * c' ∧ hv σ' + 7 * 2 ^ (c + 1) = hv σ + 7 * 2 ^ (c' + 1) ∧ c ≤ c' ∧ ∀ b, b ≠ mo → b ≠ tp → b ≠ lw → b ≠ hg → b ≠ sl → b < lo Γ + hc σ → gi σ' b = gi σ b) := by
  by_cases h0 : h = 0
  · subst h0
    refine eX9_nodeOf ⟨fun z => absurd rfl z, fun _ => ⟨_, rfl, tp, lw, hg, sl, c, n, K, den, l, rfl, M, hl, by rw [if_pos rfl], Nat.le_refl _, fun i _ => ⟨rfl, rfl⟩, fun i a b => absurd b (by omega), fun z => absurd rfl z, Nat.le_add_right _ _, OF.refl _ _ _, ⟨p.2.1, p.2.2.1, p.2.2.2.1, p.2.2.2.2⟩, rfl, rfl, Nat.le_refl _, fun _ _ _ _ _ _ _ => rfl⟩⟩
  · obtain ⟨N, T, c17⟩ := M
    have dj := MG.inj ⟨N, T, c17⟩
    have nz : ∀ i, i < n → (K (i + 2)).2.2 ≠ 0 := fun i hi => (T.2.2.1 (i + 2) (by omega) (by omega)).2.2.2.1
    -- a table (perhaps grown) with room: found or new
    have fin : ∀ τ tp1 lw1 hg1 sl1 c1, NTab τ mo tp1 lw1 hg1 sl1 c1 n (fun i => K (i + 2)) → c1 ≤ 17 → OF mo P σ τ → (P tp1 ∧ P lw1 ∧ P hg1 ∧ P sl1) → hc τ + 4 * c = hc σ + 4 * c1 → hv τ + 7 * 2 ^ (c + 1) = hv σ + 7 * 2 ^ (c1 + 1) → c ≤ c1 → (∀ b, b ≠ mo → b ≠ tp1 → b ≠ lw1 → b ≠ hg1 → b ≠ sl1 → b < lo Γ + hc σ → gi τ b = gi σ b) → ((tp1 = tp ∧ lw1 = lw ∧ hg1 = hg ∧ sl1 = sl) ∨ (lo Γ + hc σ ≤ tp1 ∧ lo Γ + hc σ ≤ lw1 ∧ lo Γ + hc σ ≤ hg1 ∧ lo Γ + hc σ ≤ sl1)) → ∀ d2, 0 ≤ d2 → (n = 2 ^ c1 → CV Γ d2 MX9_grow [.ref mo] τ (fun σ1 => hs σ1 mo = some (7, 27) ∧ CI Γ d2 MX9_nodeOf [.ref mo, .int (nI t), .int (nI l), .int (nI h)] σ1 (fun r σ' => ∃ tp' lw' hg' sl' c' n' K' den' id, r = nI id ∧ MG σ' mo tp' lw' hg' sl' c' n' K' den' ∧ id < n' + 2 ∧ den' id = (if h = 0 then den l else nden t (den l) (den h)) ∧ n ≤ n' ∧ (∀ i, i < n + 2 → K' i = K i ∧ den' i = den i) ∧ (∀ i, n + 2 ≤ i → i < n' + 2 → h ≠ 0 ∧ i = id) ∧ (h ≠ 0 → 2 ≤ id) ∧ lowc K' (n' + 2) ≤ lowc K (n + 2) + (if t < 9 then 1 else 0) ∧ OF mo P σ σ' ∧ (P tp' ∧ P lw' ∧ P hg' ∧ P sl') ∧ hc σ' + 4 * c = hc σ + 4 * c' ∧ hv σ' + 7 * 2 ^ (c + 1) = hv σ + 7 * 2 ^ (c' + 1) ∧ c ≤ c' ∧ ∀ b, b ≠ mo → b ≠ tp → b ≠ lw → b ≠ hg → b ≠ sl → b < lo Γ + hc σ → gi σ' b = gi σ b) (fun _ _ => False)) (fun _ _ => False)) → RI Γ d2 MX9_nodeOf [.ref mo, .int (nI t), .int (nI l), .int (nI h)] τ (fun r σ' => ∃ tp' lw' hg' sl' c' n' K' den' id, r = nI id ∧ MG σ' mo tp' lw' hg' sl' c' n' K' den' ∧ id < n' + 2 ∧ den' id = (if h = 0 then den l else nden t (den l) (den h)) ∧ n ≤ n' ∧ (∀ i, i < n + 2 → K' i = K i ∧ den' i = den i) ∧ (∀ i, n + 2 ≤ i → i < n' + 2 → h ≠ 0 ∧ i = id) ∧ (h ≠ 0 → 2 ≤ id) ∧ lowc K' (n' + 2) ≤ lowc K (n + 2) + (if t < 9 then 1 else 0) ∧ OF mo P σ σ' ∧ (P tp' ∧ P lw' ∧ P hg' ∧ P sl') ∧ hc σ' + 4 * c = hc σ + 4 * c' ∧ hv σ' + 7 * 2 ^ (c + 1) = hv σ + 7 * 2 ^ (c' + 1) ∧ c ≤ c' ∧ ∀ b, b ≠ mo → b ≠ tp → b ≠ lw → b ≠ hg → b ≠ sl → b < lo Γ + hc σ → gi σ' b = gi σ b) := by
      intro τ tp1 lw1 hg1 sl1 c1 N1 hc1 O1 p1 r1 r2 r3 ob ow d2 _ full
      refine nodeS_R N1 ht (by omega) (by omega) h0 (fun i hi ek => ?_) (fun nk q hq fr lt => ?_) full
      · refine ⟨tp1, lw1, hg1, sl1, c1, n, K, den, i + 2, rfl, ⟨N1, T, hc1⟩, by omega, ?_, Nat.le_refl _, fun i _ => ⟨rfl, rfl⟩, fun i a b => absurd b (by omega), fun _ => by omega, Nat.le_add_right _ _, O1, p1, r1, r2, r3, fun b b1 b2 b3 b4 b5 b6 => ob b b1 ?_ ?_ ?_ ?_ b6⟩
        · rw [if_neg h0]
          exact T.found (by omega) (by omega) ek
        all_goals rcases ow with ⟨w1, w2, w3, w4⟩ | ⟨w1, w2, w3, w4⟩ <;> omega
      · have N2 := newN_tab N1 ht (show l < 2 ^ 20 by omega) (show h < 2 ^ 20 by omega) hq fr lt
        have F2 := (newN_nf (p := q) (t := t) (l := l) (h := h) (lo Γ + hc σ) N1).of (P := P) ⟨p.1, p1.1, p1.2.1, p1.2.2.1, p1.2.2.2⟩ pq
        have g6 := (newN_g (p := q) (t := t) (l := l) (h := h) N1).2.2.2.2.2
        have new : ∀ i, 2 ≤ i → i < n + 2 → K i ≠ (t, l, h) := fun i a b e => nk (i - 2) (by omega) (by show K (i - 2 + 2) = _; rw [show i - 2 + 2 = i by omega]; exact e)
        refine ⟨tp1, lw1, hg1, sl1, c1, n + 1, up K (n + 2) (t, l, h), up den (n + 2) (nden t (den l) (den h)), n + 2, rfl, ⟨?_, T.add (by omega) ht hl hh h0 lL lH new, hc1⟩, by omega, ?_, by omega, fun i hi => ⟨up_ne _ _ (by omega), up_ne _ _ (by omega)⟩, fun i a b => ⟨h0, by omega⟩, fun _ => by omega, ?_, O1.trans F2, p1, r1, r2, r3, fun b b1 b2 b3 b4 b5 b6 => ?_⟩
        · rw [up2]; exact N2
        · rw [if_neg h0, up_same]
        · have : lowc (up K (n + 2) (t, l, h)) (n + 1 + 2) = ctp (fun i => 2 ≤ i ∧ (up K (n + 2) (t, l, h) i).1 < 9) (n + 2) + (if bd (2 ≤ n + 2 ∧ (up K (n + 2) (t, l, h) (n + 2)).1 < 9) then 1 else 0) := rfl
          rw [this, ctp_congr (Q := fun i => 2 ≤ i ∧ (K i).1 < 9) (fun x hx => by rw [up_ne _ _ (by omega)]), up_same]
          unfold lowc
          by_cases q : t < 9
          · rw [if_pos q, bd_true.mpr ⟨by omega, q⟩, if_pos rfl]
            exact Nat.le_refl _
          · rw [bd_false.mpr (fun z => q z.2), if_neg (by decide)]
            omega
        · have hb1 : b ≠ tp1 := by rcases ow with ⟨w1, w2, w3, w4⟩ | ⟨w1, w2, w3, w4⟩ <;> omega
          have hb2 : b ≠ lw1 := by rcases ow with ⟨w1, w2, w3, w4⟩ | ⟨w1, w2, w3, w4⟩ <;> omega
          have hb3 : b ≠ hg1 := by rcases ow with ⟨w1, w2, w3, w4⟩ | ⟨w1, w2, w3, w4⟩ <;> omega
          have hb4 : b ≠ sl1 := by rcases ow with ⟨w1, w2, w3, w4⟩ | ⟨w1, w2, w3, w4⟩ <;> omega
          rw [g6 b b1 hb4 hb1 hb2 hb3]; exact ob b b1 hb1 hb2 hb3 hb4 b6
    refine fin σ tp lw hg sl c N c17 (OF.refl _ _ _) ⟨p.2.1, p.2.2.1, p.2.2.2.1, p.2.2.2.2⟩ rfl rfl (Nat.le_refl _) (fun _ _ _ _ _ _ _ => rfl) (Or.inl ⟨rfl, rfl, rfl, rfl⟩) d (Nat.zero_le _) (fun hf => ?_)
    have c16 : c ≤ 16 := by
      rcases Nat.lt_or_ge c 17 with z | z
      · omega
      · have : 2 ^ 17 ≤ 2 ^ c := Nat.pow_le_pow_right (by decide) z
        omega
    refine CV.of (d2 := 3) (grow_R N (by omega) dj nz (by omega)) (by omega) (fun σ1 W1 q => ?_)
    obtain ⟨tp1, lw1, hg1, sl1, N1, ⟨w1, w2, w3, w4⟩, F1, x1, x2, x3⟩ := q
    have O1 := F1.of (P := P) p pq
    refine ⟨N1.1, CI.of (d2 := 0) (fin σ1 tp1 lw1 hg1 sl1 (c + 1) N1 (by omega) O1 ⟨pq _ w1, pq _ w2, pq _ w3, pq _ w4⟩ (by omega) (pw7 x2) (by omega) (fun b b1 _ _ _ _ b6 => x3 b b1 b6) (Or.inr ⟨w1, w2, w3, w4⟩) 0 (Nat.le_refl _) (fun z => ?_)) (by omega) (fun r σ' _ q => q)⟩
    exfalso
    have : 2 ^ (c + 1) = 2 * 2 ^ c := by rw [Nat.pow_succ]; omega
    have := Nat.two_pow_pos c
    omega
