/-! ROWS of the model: counting nodes; what a count of nodes is. -/
/-- there are k families with Q -/
def cardN (Q : (Nat → Bool) → Prop) (k : Nat) : Prop := ∃ (n : Nat) (den : Nat → Nat → Bool), (∀ i j, i < n → j < n → den i = den j → i = j) ∧ (∀ g, Q g → ∃ i, 2 ≤ i ∧ i < n ∧ den i = g) ∧ k = ctp (fun i => 2 ≤ i ∧ Q (den i)) n
theorem cardN_le {Q : (Nat → Bool) → Prop} {k l : Nat} (h : cardN Q k) (h' : cardN Q l) : k ≤ l := by
  obtain ⟨n, den, i1, e1, rfl⟩ := h
  obtain ⟨m, den', i2, e2, rfl⟩ := h'
  have hf : ∀ i, ∃ j, (2 ≤ i ∧ Q (den i)) → (2 ≤ j ∧ j < m ∧ den' j = den i) := fun i => by
    by_cases c : 2 ≤ i ∧ Q (den i)
    · obtain ⟨j, a, b, e⟩ := e2 _ c.2
      exact ⟨j, fun _ => ⟨a, b, e⟩⟩
    · exact ⟨0, fun z => absurd z c⟩
  refine ctp_inj (fun i => Classical.choose (hf i)) (fun i hi hp => ?_) (fun i j hi hj hp hq e => ?_)
  · have := Classical.choose_spec (hf i) hp
    exact ⟨this.2.1, this.1, by rw [this.2.2]; exact hp.2⟩
  · have a := Classical.choose_spec (hf i) hp
    have b := Classical.choose_spec (hf j) hq
    have e : Classical.choose (hf i) = Classical.choose (hf j) := e
    rw [e] at a
    exact i1 i j hi hj (a.2.2.symm.trans b.2.2)
theorem cardN_one {Q : (Nat → Bool) → Prop} {k l : Nat} (h : cardN Q k) (h' : cardN Q l) : k = l := Nat.le_antisymm (cardN_le h h') (cardN_le h' h)
theorem cardN_cong {Q Q' : (Nat → Bool) → Prop} {k : Nat} (h : cardN Q k) (e : ∀ g, Q g ↔ Q' g) : cardN Q' k := by
  obtain ⟨n, den, i1, e1, rfl⟩ := h
  exact ⟨n, den, i1, fun g hg => e1 g ((e g).mpr hg), ctp_congr (fun i _ => and_congr Iff.rfl (e _))⟩
theorem cardN_tab {K : Nat → Nat × Nat × Nat} {n : Nat} {den : Nat → Nat → Bool} {Q : (Nat → Bool) → Prop} (T : NT K (n + 2) den) (h : ∀ g, (∃ i, 2 ≤ i ∧ i < n + 2 ∧ den i = g) ↔ Q g) : cardN Q n := by
  refine ⟨n + 2, den, T.2.2.2.1, fun g hg => (h g).mpr hg, ?_⟩
  rw [ctp_congr (Q := fun i => 2 ≤ i) (fun i hi => ⟨fun z => z.1, fun z => ⟨z, (h _).mp ⟨i, z, hi, rfl⟩⟩⟩), Nat.add_comm n 2]
  exact (ctp_all 2).symm
def MSh (σ : AH) (mo tp lw hg sl c : Nat) : Prop := hs σ mo = some (7, 27) ∧ gr σ mo 16 = some tp ∧ gr σ mo 17 = some lw ∧ gr σ mo 18 = some hg ∧ gr σ mo 19 = some sl ∧ hs σ tp = some (22, 2 ^ c) ∧ hs σ lw = some (22, 2 ^ c) ∧ hs σ hg = some (22, 2 ^ c) ∧ hs σ sl = some (22, 2 ^ (c + 2)) ∧ (tp ≠ lw ∧ tp ≠ hg ∧ tp ≠ sl ∧ lw ≠ hg ∧ lw ≠ sl ∧ hg ≠ sl) ∧ 6 ≤ c ∧ c ≤ 17
theorem MG.sh {σ : AH} {mo tp lw hg sl c n : Nat} {K : Nat → Nat × Nat × Nat} {den : Nat → Nat → Bool} (M : MG σ mo tp lw hg sl c n K den) : MSh σ mo tp lw hg sl c := by
  obtain ⟨⟨N0, N1, N2, N3, N4, N5, N6, N7, N8, m, N9, N10, N11, N12, N13, N14, N15⟩, T, c17⟩ := M
  exact ⟨N0, N1, N2, N3, N4, N5, N6, N7, N8, m, N11, c17⟩
def den0 (i : Nat) : Nat → Bool := if i = 0 then zf else onef
section MC
variable {Γ : Gm} {d : Nat} {σ : AH} {P : Nat → Prop} {mo tp lw hg sl c pa fa : Nat}
theorem cleared_R (S : MSh σ mo tp lw hg sl c) (p : P mo ∧ P sl) : RV Γ d MX9_clearNodes [.ref mo] σ (fun σ' => MG σ' mo tp lw hg sl c 0 (fun _ => (0, 0, 0)) den0 ∧ OF mo P σ σ' ∧ hc σ' = hc σ ∧ hv σ' = hv σ) := by
  obtain ⟨N0, N1, N2, N3, N4, N5, N6, N7, N8, ⟨m1, m2, m3, m4, m5, m6⟩, N11, c17⟩ := S
  have hM : 2 ^ (c + 2) ≤ 2 ^ 19 := Nat.pow_le_pow_right (by decide) (by omega)
  have o4 : sl ≠ mo := hs_ne N8 N0 (show (22 : Nat) ≠ 7 by decide)
  refine (clearNodes_R N0 N4 N8 (by omega)).post (fun o σ' _ q => ⟨q.1, ?_⟩)
  obtain ⟨-, e⟩ := q
  have g1 : gi σ' mo = up (gi σ mo) 20 0 := by rw [e, gi_rown _ _ (Ne.symm o4), gi_setI_s]
  refine ⟨⟨⟨by rw [e]; exact N0, by rw [e]; exact N1, by rw [e]; exact N2, by rw [e]; exact N3, by rw [e]; exact N4, by rw [e]; exact N5, by rw [e]; exact N6, by rw [e]; exact N7, by rw [e]; exact N8, ⟨m1, m2, m3, m4, m5, m6⟩, by rw [g1, up_same]; rfl, Nat.zero_le _, N11, by omega, fun i hi => absurd hi (by omega), ?_, fun i hi => absurd hi (by omega)⟩, NT.start _, c17⟩, ⟨?_, fun j hj => by rw [g1, up_ne _ _ hj], fun j _ => by rw [e]; rfl⟩, by rw [e]; rfl, by rw [e]; rfl⟩
  · refine MT.empty _ _ _ (fun q hq => ?_)
    rw [e, gi_row, fl_in hq]
  · rw [e]; exact (FR.setI _ _ _ p.1).trans (FR.rowI _ _ p.2)
theorem lowc_2 (K : Nat → Nat × Nat × Nat) : lowc K (0 + 2) = 0 := ctp_none (fun x hx h => by omega)
theorem none_2 {den : Nat → Nat → Bool} (g : Nat → Bool) : (∃ i, 2 ≤ i ∧ i < 0 + 2 ∧ den i = g) ↔ False := ⟨fun ⟨i, a, b, _⟩ => by omega, False.elim⟩
theorem countNodes_R {f : Nat} (S : MSh σ mo tp lw hg sl c) (p0 : P mo ∧ P pa) (p : (P tp ∧ tp ≠ pa) ∧ (P lw ∧ lw ≠ pa) ∧ (P hg ∧ hg ≠ pa) ∧ (P sl ∧ sl ≠ pa)) (pq : ∀ a, lo Γ + hc σ ≤ a → P a)
    (h1 : gr σ mo 21 = some pa) (h2 : hs σ pa = some (22, 4096)) (h3 : gr σ mo 9 = some fa) (h4 : hs σ fa = some (23, 12800)) (h5 : ¬ P fa) (hf : f < 200) (hd : 8 ≤ d) :
    RI Γ d MX9_countNodes [.ref mo, .int (nI f)] σ (fun r σ' => ∃ k tp' lw' hg' sl' c', r = nI k ∧ k < 2 ^ 20 ∧ cardN (NP (fam (sr (gj σ fa) f))) k ∧ MSh σ' mo tp' lw' hg' sl' c' ∧ OF mo P σ σ' ∧ ((P tp' ∧ tp' ≠ pa) ∧ (P lw' ∧ lw' ≠ pa) ∧ (P hg' ∧ hg' ≠ pa) ∧ (P sl' ∧ sl' ≠ pa)) ∧ hc σ' + 4 * c = hc σ + 4 * c' ∧ hv σ' + 7 * 2 ^ (c + 1) = hv σ + 7 * 2 ^ (c' + 1) ∧ c ≤ c') := by
  refine eX9_countNodes ⟨S.1, CV.of (d2 := 0) (cleared_R (P := P) S ⟨p0.1, p.2.2.2.1⟩) (by omega) (fun σ1 _ q => ?_)⟩
  obtain ⟨M1, O1, x1, x2⟩ := q
  refine ⟨M1.1.1, CV.of (d2 := 7) (number_R (B := fun _ => False) M1 none_2 (by rw [lowc_2]; omega) p0 p (fun a ha => pq a (by omega)) (by rw [O1.2.2 21 (by omega)]; exact h1) (O1.1.gh h2) (by rw [O1.2.2 9 (by omega)]; exact h3) (O1.1.gh h4) h5 hf (by omega)) (by omega) (fun σ4 _ q => ?_)⟩
  obtain ⟨tp', lw', hg', sl', c', n', K', den', M4, hB, lo4, O4, p4, y1, y2, y3⟩ := q
  rw [lowc_2] at lo4
  have sz := M4.2.1.size (by omega)
  refine ⟨M4.1.1, _, rfl, n', tp', lw', hg', sl', c', M4.1.2.2.2.2.2.2.2.2.2.2.1, by omega, ?_, M4.sh, O1.trans O4, p4, by omega, by omega, y3⟩
  refine cardN_tab M4.2.1 (fun g => ?_)
  rw [hB g, O1.1.gj h5]
  exact ⟨fun z => z.elim False.elim id, Or.inr⟩
theorem countAll_R {ir n : Nat} {rel : Nat → Bool} {FM : Nat → Nat → Bool} (S : MSh σ mo tp lw hg sl c) (p0 : P mo ∧ P pa) (p : (P tp ∧ tp ≠ pa) ∧ (P lw ∧ lw ≠ pa) ∧ (P hg ∧ hg ≠ pa) ∧ (P sl ∧ sl ≠ pa)) (pq : ∀ a, lo Γ + hc σ ≤ a → P a)
    (h1 : gr σ mo 21 = some pa) (h2 : hs σ pa = some (22, 4096)) (h3 : gr σ mo 9 = some fa) (h4 : hs σ fa = some (23, 12800)) (h5 : ¬ P fa) (h6 : gr σ mo 8 = some ir) (h7 : hs σ ir = some (21, 200)) (h8 : ¬ P ir) (h9 : ∀ i, i < n → gi σ ir i = b2i (rel i)) (h10 : gi σ mo 6 = nI n) (hn : n ≤ 200) (hFM : ∀ i, i < n → rel i = false → fam (sr (gj σ fa) i) = FM i) (hd : 8 ≤ d) :
    RI Γ d MX9_countAllNodes [.ref mo] σ (fun r σ' => ∃ k tp' lw' hg' sl' c', r = nI k ∧ k < 2 ^ 20 ∧ cardN (fun g => ∃ i, i < n ∧ rel i = false ∧ NP (FM i) g) k ∧ MSh σ' mo tp' lw' hg' sl' c' ∧ OF mo P σ σ' ∧ ((P tp' ∧ tp' ≠ pa) ∧ (P lw' ∧ lw' ≠ pa) ∧ (P hg' ∧ hg' ≠ pa) ∧ (P sl' ∧ sl' ≠ pa)) ∧ hc σ' + 4 * c = hc σ + 4 * c' ∧ hv σ' + 7 * 2 ^ (c + 1) = hv σ + 7 * 2 ^ (c' + 1) ∧ c ≤ c') := by
  refine eX9_countAllNodes ⟨S.1, CV.of (d2 := 0) (cleared_R (P := P) S ⟨p0.1, p.2.2.2.1⟩) (by omega) (fun σ1 _ q => ?_)⟩
  obtain ⟨M1, O1, x1, x2⟩ := q
  have L : ∀ f, f ≤ n → ∀ τ tp' lw' hg' sl' c' m K' den', MG τ mo tp' lw' hg' sl' c' m K' den' → (∀ g, (∃ i, 2 ≤ i ∧ i < m + 2 ∧ den' i = g) ↔ ∃ i, i < f ∧ rel i = false ∧ NP (FM i) g) → lowc K' (m + 2) ≤ 511 * f → OF mo P σ τ → ((P tp' ∧ tp' ≠ pa) ∧ (P lw' ∧ lw' ≠ pa) ∧ (P hg' ∧ hg' ≠ pa) ∧ (P sl' ∧ sl' ≠ pa)) → hc τ + 4 * c = hc σ + 4 * c' → hv τ + 7 * 2 ^ (c + 1) = hv σ + 7 * 2 ^ (c' + 1) → c ≤ c' → EV Γ MX9_countAllNodes d 6 [some (.ref mo), some (.int (nI f))] [] τ (fun oc σ' => ∃ r : Int32, oc = .inl (some (.int r)) ∧ ∃ k tp' lw' hg' sl' c', r = nI k ∧ k < 2 ^ 20 ∧ cardN (fun g => ∃ i, i < n ∧ rel i = false ∧ NP (FM i) g) k ∧ MSh σ' mo tp' lw' hg' sl' c' ∧ OF mo P σ σ' ∧ ((P tp' ∧ tp' ≠ pa) ∧ (P lw' ∧ lw' ≠ pa) ∧ (P hg' ∧ hg' ≠ pa) ∧ (P sl' ∧ sl' ≠ pa)) ∧ hc σ' + 4 * c = hc σ + 4 * c' ∧ hv σ' + 7 * 2 ^ (c + 1) = hv σ + 7 * 2 ^ (c' + 1) ∧ c ≤ c') := by
    refine upto n ?_ (fun f hf ih => ?_)
    · intro τ tp' lw' hg' sl' c' m K' den' M hB hl O p' y1 y2 y3
      have sz := M.2.1.size (by omega)
      refine gX9_countAllNodes_6 ⟨M.1.1, fun _ => ⟨_, rfl, m, tp', lw', hg', sl', c', M.1.2.2.2.2.2.2.2.2.2.2.1, by omega, cardN_tab M.2.1 hB, M.sh, O, p', y1, y2, y3⟩, fun z => absurd (by rw [O.2.1 6 (by decide), h10]; exact nI_le (Nat.le_refl _) (by omega)) z⟩
    · intro τ tp' lw' hg' sl' c' m K' den' M hB hl O p' y1 y2 y3
      refine gX9_countAllNodes_6 ⟨M.1.1, fun z => absurd (by rw [O.2.1 6 (by decide), h10] at z; exact (nI_leI (by omega) (by omega)).mp z) (by omega), fun _ => ⟨ir, by rw [O.2.2 8 (by omega)]; exact h6, 200, O.1.gh h7, f, IXn (by omega) (by omega), ?_⟩⟩
      rw [O.1.gi h8, h9 f hf, nI_1]
      refine ⟨fun z => ?_, fun z => ?_⟩
      · have z := (b2i_ne0 _).mp z
        refine ih τ tp' lw' hg' sl' c' m K' den' M (fun g => ?_) (by omega) O p' y1 y2 y3
        rw [hB g]
        constructor
        · intro ⟨i, a, b⟩
          exact ⟨i, by omega, b⟩
        · intro ⟨i, a, b, k⟩
          refine ⟨i, ?_, b, k⟩
          rcases Nat.lt_or_ge i f with w | w
          · exact w
          · have : i = f := by omega
            rw [this, z] at b; exact absurd b (by decide)
      · have z := (b2i_0 _).mp z
        refine CV.of (d2 := 7) (number_R M hB (by omega) p0 p' (fun a ha => pq a (by have := O.1.1; omega)) (by rw [O.2.2 21 (by omega)]; exact h1) (O.1.gh h2) (by rw [O.2.2 9 (by omega)]; exact h3) (O.1.gh h4) h5 (f := f) (by omega) (by omega)) (by omega) (fun σ4 _ q => ?_)
        obtain ⟨tp2, lw2, hg2, sl2, c2, m2, K2, den2, M4, hB4, lo4, O4, p4, w1, w2, w3⟩ := q
        refine ih σ4 tp2 lw2 hg2 sl2 c2 m2 K2 den2 M4 (fun g => ?_) (by omega) (O.trans O4) p4 (by omega) (by omega) (by omega)
        rw [hB4 g, O.1.gj h5, hFM f hf z]
        constructor
        · rintro (⟨i, a, b⟩ | k)
          · exact ⟨i, by omega, b⟩
          · exact ⟨f, by omega, z, k⟩
        · intro ⟨i, a, b, k⟩
          rcases Nat.lt_or_ge i f with w | w
          · exact Or.inl ⟨i, w, b, k⟩
          · have : i = f := by omega
            rw [this] at k
            exact Or.inr k
  exact L 0 (Nat.zero_le _) σ1 tp lw hg sl c 0 _ _ M1 (fun g => by rw [none_2]; exact ⟨False.elim, fun ⟨i, a, _⟩ => by omega⟩) (by rw [lowc_2]; omega) O1 p (by omega) (by omega) (Nat.le_refl _)
end MC
