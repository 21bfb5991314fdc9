/-! ROWS of the model: number, countNodes, countAllNodes. -/
def NI (P : Nat → Prop) (mo pa c0 L0 : Nat) (F : Nat → Bool) (B : (Nat → Bool) → Prop) (σ0 : AH) (e q : Nat) (τ : AH) (tp lw hg sl c n : Nat) (K : Nat → Nat × Nat × Nat) (den : Nat → Nat → Bool) : Prop :=
  MG τ mo tp lw hg sl c n K den ∧ (∀ p, p < 2 ^ (e + 1) → ∃ x, x < n + 2 ∧ gi τ pa p = nI x ∧ den x = if p < q then part F e p else part F (e + 1) p) ∧ (∀ g, (∃ i, 2 ≤ i ∧ i < n + 2 ∧ den i = g) ↔ (B g ∨ PR F e q g)) ∧ lowc K (n + 2) ≤ L0 + made e q ∧ OF mo P σ0 τ ∧ ((P tp ∧ tp ≠ pa) ∧ (P lw ∧ lw ≠ pa) ∧ (P hg ∧ hg ≠ pa) ∧ (P sl ∧ sl ≠ pa)) ∧ hc τ + 4 * c0 = hc σ0 + 4 * c ∧ hv τ + 7 * 2 ^ (c0 + 1) = hv σ0 + 7 * 2 ^ (c + 1) ∧ c0 ≤ c
theorem NI_cong {P : Nat → Prop} {mo pa c0 L0 : Nat} {F : Nat → Bool} {B : (Nat → Bool) → Prop} {σ0 : AH} {e q e2 q2 : Nat} {τ : AH} {tp lw hg sl c n : Nat} {K : Nat → Nat × Nat × Nat} {den : Nat → Nat → Bool} (h : NI P mo pa c0 L0 F B σ0 e q τ tp lw hg sl c n K den) (hg' : ∀ g, PR F e q g ↔ PR F e2 q2 g) (hp : ∀ p, p < 2 ^ (e2 + 1) → p < 2 ^ (e + 1) ∧ (if p < q then part F e p else part F (e + 1) p) = if p < q2 then part F e2 p else part F (e2 + 1) p) (hm : made e q ≤ made e2 q2) : NI P mo pa c0 L0 F B σ0 e2 q2 τ tp lw hg sl c n K den := by
  obtain ⟨h1, h2, h3, h4, h5⟩ := h
  refine ⟨h1, fun p h => ?_, fun g => by rw [← hg' g]; exact h3 g, by omega, h5⟩
  obtain ⟨a, b⟩ := hp p h
  obtain ⟨x, x1, x2, x3⟩ := h2 p a
  exact ⟨x, x1, x2, by rw [x3, b]⟩
theorem number_R {Γ : Gm} {d : Nat} {σ : AH} {P : Nat → Prop} {mo tp lw hg sl c n pa fa f : Nat} {K : Nat → Nat × Nat × Nat} {den : Nat → Nat → Bool} {B : (Nat → Bool) → Prop} (M : MG σ mo tp lw hg sl c n K den) (hB : ∀ g, (∃ i, 2 ≤ i ∧ i < n + 2 ∧ den i = g) ↔ B g) (hlow : lowc K (n + 2) ≤ 102200) (p0 : P mo ∧ P pa) (p : (P tp ∧ tp ≠ pa) ∧ (P lw ∧ lw ≠ pa) ∧ (P hg ∧ hg ≠ pa) ∧ (P sl ∧ sl ≠ pa)) (pq : ∀ a, lo Γ + hc σ ≤ a → P a)
    (h1 : gr σ mo 21 = some pa) (h2 : hs σ pa = some (22, 4096)) (h3 : gr σ mo 9 = some fa) (h4 : hs σ fa = some (23, 12800)) (h5 : ¬ P fa) (hf : f < 200) (hd : 7 ≤ d) :
    RV Γ d MX9_number [.ref mo, .int (nI f)] σ (fun σ' => ∃ tp' lw' hg' sl' c' n' K' den', MG σ' mo tp' lw' hg' sl' c' n' K' den' ∧ (∀ g, (∃ i, 2 ≤ i ∧ i < n' + 2 ∧ den' i = g) ↔ (B g ∨ NP (fam (sr (gj σ fa) f)) g)) ∧ lowc K' (n' + 2) ≤ lowc K (n + 2) + 511 ∧ OF mo P σ σ' ∧ ((P tp' ∧ tp' ≠ pa) ∧ (P lw' ∧ lw' ≠ pa) ∧ (P hg' ∧ hg' ≠ pa) ∧ (P sl' ∧ sl' ≠ pa)) ∧ hc σ' + 4 * c = hc σ + 4 * c' ∧ hv σ' + 7 * 2 ^ (c + 1) = hv σ + 7 * 2 ^ (c' + 1) ∧ c ≤ c') := by
  have h0 := M.1.1
  have nmp : mo ≠ pa := hs_ne h0 h2 (show (7 : Nat) ≠ 22 by decide)
  have nfp : fa ≠ pa := hs_ne h4 h2 (show (23 : Nat) ≠ 22 by decide)
  generalize hF : fam (sr (gj σ fa) f) = F
  have sF : sup F := by rw [← hF]; exact fam_sup _
  have mle : ∀ e q, q ≤ 2 ^ e → made e q ≤ 512 := fun e q hq => by
    unfold made
    by_cases z : e < 9
    · have : 2 ^ (e + 1) = 2 ^ e + 2 ^ e := by rw [Nat.pow_succ]; omega
      have : 2 ^ (e + 1) ≤ 2 ^ 9 := Nat.pow_le_pow_right (by decide) (by omega)
      rw [if_pos z]; omega
    · rw [if_neg z]; omega
  have outer : ∀ E, E ≤ 12 → ∀ τ tp' lw' hg' sl' c' n' K' den', NI P mo pa c (lowc K (n + 2)) F B σ (E - 1) (if E = 0 then 1 else 0) τ tp' lw' hg' sl' c' n' K' den' → EV Γ MX9_number d 41 [some (.ref mo), none, some (.int (nI E - 1)), none] [] τ (fun oc σ' => oc = .inl none ∧ ∃ tp' lw' hg' sl' c' n' K' den', MG σ' mo tp' lw' hg' sl' c' n' K' den' ∧ (∀ g, (∃ i, 2 ≤ i ∧ i < n' + 2 ∧ den' i = g) ↔ (B g ∨ NP F g)) ∧ lowc K' (n' + 2) ≤ lowc K (n + 2) + 511 ∧ OF mo P σ σ' ∧ ((P tp' ∧ tp' ≠ pa) ∧ (P lw' ∧ lw' ≠ pa) ∧ (P hg' ∧ hg' ≠ pa) ∧ (P sl' ∧ sl' ≠ pa)) ∧ hc σ' + 4 * c = hc σ + 4 * c' ∧ hv σ' + 7 * 2 ^ (c + 1) = hv σ + 7 * 2 ^ (c' + 1) ∧ c ≤ c') := by
    intro E
    induction E with
    | zero =>
      intro _ τ tp' lw' hg' sl' c' n' K' den' W
      obtain ⟨W1, W2, W3, W4, W5, W6, W7, W8, W9⟩ := W
      refine gX9_number_41 ⟨fun _ => ⟨rfl, tp', lw', hg', sl', c', n', K', den', W1, fun g => ?_, W4, W5, W6, W7, W8, W9⟩, fun z => absurd (by decide) z⟩
      rw [W3 g]
      exact or_congr Iff.rfl (PR_0 F g)
    | succ e ih =>
      intro hE τ tp' lw' hg' sl' c' n' K' den' W
      have he : e < 12 := by omega
      rw [if_neg (by omega), Nat.add_sub_cancel] at W
      rw [nI_pred]
      have pe := Nat.two_pow_pos e
      have p1 : 2 ^ (e + 1) = 2 ^ e + 2 ^ e := by rw [Nat.pow_succ]; omega
      have p12 : 2 ^ (e + 1) ≤ 2 ^ 12 := Nat.pow_le_pow_right (by decide) (by omega)
      refine gX9_number_41 ⟨fun z => absurd z (nn0 (by omega)), fun _ => ?_⟩
      have inner : ∀ q, q ≤ 2 ^ e → ∀ τ tp' lw' hg' sl' c' n' K' den', NI P mo pa c (lowc K (n + 2)) F B σ e q τ tp' lw' hg' sl' c' n' K' den' → EV Γ MX9_number d 47 [some (.ref mo), none, some (.int (nI e)), some (.int (nI q))] [] τ (fun oc σ' => oc = .inl none ∧ ∃ tp' lw' hg' sl' c' n' K' den', MG σ' mo tp' lw' hg' sl' c' n' K' den' ∧ (∀ g, (∃ i, 2 ≤ i ∧ i < n' + 2 ∧ den' i = g) ↔ (B g ∨ NP F g)) ∧ lowc K' (n' + 2) ≤ lowc K (n + 2) + 511 ∧ OF mo P σ σ' ∧ ((P tp' ∧ tp' ≠ pa) ∧ (P lw' ∧ lw' ≠ pa) ∧ (P hg' ∧ hg' ≠ pa) ∧ (P sl' ∧ sl' ≠ pa)) ∧ hc σ' + 4 * c = hc σ + 4 * c' ∧ hv σ' + 7 * 2 ^ (c + 1) = hv σ + 7 * 2 ^ (c' + 1) ∧ c ≤ c') := by
        refine upto (2 ^ e) ?_ (fun q hq ih2 => ?_)
        · intro τ tp' lw' hg' sl' c' n' K' den' W
          refine gX9_number_47 ⟨fun _ => ?_, fun z => absurd (by rw [el_bit e he]; exact nI_le (Nat.le_refl _) (by omega)) z⟩
          rw [show nI e + (-1) = nI e - 1 from (Int32.sub_eq_add_neg _ _).symm]
          refine ih (by omega) τ tp' lw' hg' sl' c' n' K' den' ?_
          cases e with
          | zero => exact W
          | succ e =>
            rw [if_neg (by omega), Nat.add_sub_cancel]
            exact NI_cong W (fun g => PR_next F e g) (fun p a => ⟨by omega, by rw [if_pos a, if_neg (by omega)]⟩) (made_next e)
        · intro τ tp' lw' hg' sl' c' n' K' den' W
          refine EV.wf (fun W0 => ?_)
          obtain ⟨W1, W2, W3, W4, W5, W6, W7, W8, W9⟩ := W
          have sz := W1.2.1.size (by omega)
          have ml := mle e q (by omega)
          obtain ⟨xl, xln, xlv, xld⟩ := W2 q (by omega)
          obtain ⟨xh, xhn, xhv, xhd⟩ := W2 (q + 2 ^ e) (by omega)
          rw [if_neg (by omega)] at xld xhd
          have hmo := W1.1.1
          have spa := W5.1.gh h2
          have pal := W0.1 pa _ spa
          refine gX9_number_47 ⟨fun z => absurd (by rw [el_bit e he] at z; exact (nI_leI (by omega) (by omega)).mp z) (by omega), fun _ => ⟨hmo, pa, by rw [W5.2.2 21 (by omega)]; exact h1, 4096, spa, q, IXn (by omega) (by omega), q + 2 ^ e, by rw [el_bit e he, nI_add]; exact IXn (by omega) (by omega), ?_⟩⟩
          rw [xlv, xhv]
          have z0 : xh = 0 ↔ part F (e + 1) (q + 2 ^ e) = zf := by
            constructor
            · intro z; rw [← xhd, z]; exact W1.2.1.1
            · intro z; exact W1.2.1.2.2.2.1 xh 0 xhn (by omega) (by rw [xhd, z]; exact W1.2.1.1.symm)
          refine CI.of (d2 := 6) (mnode_R (P := fun a => P a ∧ a ≠ pa) W1 (by omega) he xln xhn (by rw [xld]; exact part_lev _ _ _) (by rw [xhd]; exact part_lev _ _ _) ⟨⟨p0.1, nmp⟩, W6.1, W6.2.1, W6.2.2.1, W6.2.2.2⟩ (fun a ha => ⟨pq a (by have := W5.1.1; omega), by omega⟩) (by omega)) (by omega) (fun r τ1 hw1 k => ?_)
          obtain ⟨tp1, lw1, hg1, sl1, c1, n1, K1, den1, id, rfl, M1, il, idd, nle, KD, newi, i2, lo1, O1, P1, r1, r2, r3, -⟩ := k
          have gpa : gi τ1 pa = gi τ pa := O1.1.gi (fun z => z.2 rfl)
          refine ⟨4096, O1.1.gh spa, q, IXn (by omega) (by omega), fun τ2 e2 => ?_⟩
          have e2' : τ2 = rowI τ1 pa (up (gi τ1 pa) q (nI id)) := e2
          have gp2 : gi τ2 pa = up (gi τ pa) q (nI id) := by rw [e2', gi_row, gpa]
          have go2 : ∀ b, b ≠ pa → gi τ2 b = gi τ1 b := fun b hb => by rw [e2', gi_rown _ _ hb]
          have O2 : OF mo P τ1 τ2 := ⟨by rw [e2']; exact FR.rowI _ _ p0.2, fun j _ => by rw [go2 mo nmp], fun j _ => by rw [e2']; rfl⟩
          have M2 : MG τ2 mo tp1 lw1 hg1 sl1 c1 n1 K1 den1 := by
            obtain ⟨⟨N0, N1, N2, N3, N4, N5, N6, N7, N8, m, N9, N10, N11, N12, N13, N14, N15⟩, T, c17⟩ := M1
            refine ⟨⟨by rw [e2']; exact N0, by rw [e2']; exact N1, by rw [e2']; exact N2, by rw [e2']; exact N3, by rw [e2']; exact N4, by rw [e2']; exact N5, by rw [e2']; exact N6, by rw [e2']; exact N7, by rw [e2']; exact N8, m, by rw [go2 mo nmp]; exact N9, N10, N11, N12, ?_, by rw [go2 _ P1.2.2.2.2]; exact N14, N15⟩, T, c17⟩
            rw [go2 _ P1.1.2, go2 _ P1.2.1.2, go2 _ P1.2.2.1.2]; exact N13
          have O12 : OF mo P σ τ2 := (W5.trans ⟨O1.1.mono (fun a h => h.1), O1.2.1, O1.2.2⟩).trans O2
          have idp : den1 id = part F e q := by
            rw [idd, xld, xhd, part_s F e q]
            by_cases z : xh = 0
            · rw [if_pos z, z0.mp z, nden_zf (part_lev _ _ _)]
            · rw [if_neg z]
          rw [nI_1]
          refine ih2 τ2 tp1 lw1 hg1 sl1 c1 n1 K1 den1 ⟨M2, fun p hp => ?_, fun g => ?_, ?_, O12, P1, by rw [e2']; show hc τ1 + _ = _; omega, by rw [e2']; show hv τ1 + _ = _; omega, by omega⟩
          · rw [gp2]
            by_cases w : p = q
            · rw [w]
              exact ⟨id, il, up_same _ _ _, by rw [if_pos (by omega), idp]⟩
            · obtain ⟨x, a, b, cx⟩ := W2 p hp
              refine ⟨x, by omega, by rw [up_ne _ _ w]; exact b, ?_⟩
              rw [(KD x a).2, cx]
              by_cases w2 : p < q
              · rw [if_pos w2, if_pos (by omega)]
              · rw [if_neg w2, if_neg (by omega)]
          · by_cases z : xh = 0
            · have zz := z0.mp z
              have nn : n1 = n' := by
                rcases Nat.lt_or_ge n' n1 with w | w
                · exact absurd z (newi (n' + 2) (by omega) (by omega)).1
                · omega
              subst nn
              rw [PR_zero zz, ← W3 g]
              constructor
              · intro ⟨i, a, b, k⟩
                exact ⟨i, a, b, by rw [← (KD i b).2]; exact k⟩
              · intro ⟨i, a, b, k⟩
                exact ⟨i, a, b, by rw [(KD i b).2]; exact k⟩
            · have zz : part F (e + 1) (q + 2 ^ e) ≠ zf := fun y => z (z0.mpr y)
              rw [PR_one he zz, ← or_assoc, ← W3 g]
              constructor
              · intro ⟨i, a, b, k⟩
                rcases Nat.lt_or_ge i (n' + 2) with w | w
                · exact Or.inl ⟨i, a, w, by rw [← (KD i w).2]; exact k⟩
                · right
                  rw [← k, (newi i w b).2, idp]
              · rintro (⟨i, a, b, k⟩ | k)
                · exact ⟨i, a, by omega, by rw [(KD i b).2]; exact k⟩
                · exact ⟨id, i2 z, il, by rw [idp, k]⟩
          · have : made e q + (if e < 9 then 1 else 0) ≤ made e (q + 1) := by
              unfold made
              by_cases z : e < 9
              · rw [if_pos z, if_pos z, if_pos z]; omega
              · rw [if_neg z, if_neg z, if_neg z]; exact Nat.le_refl _
            omega
      exact inner 0 (Nat.zero_le _) τ tp' lw' hg' sl' c' n' K' den' W
  have L : ∀ m, m ≤ 4096 → EV Γ MX9_number d 2 [some (.ref mo), some (.int (nI f)), some (.int (nI m)), none] [] (rowI σ pa (fl (fun m => b2i (F m)) (gi σ pa) m)) (fun oc σ' => oc = .inl none ∧ ∃ tp' lw' hg' sl' c' n' K' den', MG σ' mo tp' lw' hg' sl' c' n' K' den' ∧ (∀ g, (∃ i, 2 ≤ i ∧ i < n' + 2 ∧ den' i = g) ↔ (B g ∨ NP F g)) ∧ lowc K' (n' + 2) ≤ lowc K (n + 2) + 511 ∧ OF mo P σ σ' ∧ ((P tp' ∧ tp' ≠ pa) ∧ (P lw' ∧ lw' ≠ pa) ∧ (P hg' ∧ hg' ≠ pa) ∧ (P sl' ∧ sl' ≠ pa)) ∧ hc σ' + 4 * c = hc σ + 4 * c' ∧ hv σ' + 7 * 2 ^ (c + 1) = hv σ + 7 * 2 ^ (c' + 1) ∧ c ≤ c') := by
    refine upto _ ?_ (fun m hm ih => ?_)
    · refine gX9_number_2 ⟨fun _ => ?_, fun z => absurd ((c4096le (by omega)).mpr (Nat.le_refl _)) z⟩
      have go2 : ∀ b, b ≠ pa → gi (rowI σ pa (fl (fun m => b2i (F m)) (gi σ pa) 4096)) b = gi σ b := fun b hb => gi_rown _ _ hb
      refine outer 12 (Nat.le_refl _) (rowI σ pa (fl (fun m => b2i (F m)) (gi σ pa) 4096)) tp lw hg sl c n K den ?_
      rw [if_neg (by decide)]
      refine ⟨?_, fun x hx => ?_, fun g => ?_, Nat.le_add_right _ _, ⟨FR.rowI _ _ p0.2, fun j _ => by rw [go2 mo nmp], fun j _ => rfl⟩, p, rfl, rfl, Nat.le_refl _⟩
      · obtain ⟨⟨N0, N1, N2, N3, N4, N5, N6, N7, N8, m, N9, N10, N11, N12, N13, N14, N15⟩, T, c17⟩ := M
        refine ⟨⟨N0, N1, N2, N3, N4, N5, N6, N7, N8, m, by rw [go2 mo nmp]; exact N9, N10, N11, N12, ?_, by rw [go2 _ p.2.2.2.2]; exact N14, N15⟩, T, c17⟩
        rw [go2 _ p.1.2, go2 _ p.2.1.2, go2 _ p.2.2.1.2]; exact N13
      · have hx : x < 4096 := hx
        rw [gi_row, fl_in hx, if_neg (by omega)]
        show ∃ y, y < n + 2 ∧ b2i (F x) = nI y ∧ den y = part F 12 x
        rw [part_12 sF]
        cases hb : F x
        · exact ⟨0, by omega, rfl, M.2.1.1⟩
        · exact ⟨1, by omega, rfl, M.2.1.2.1⟩
      · rw [hB g]
        exact ⟨Or.inl, fun z => z.elim id (fun ⟨e', p', a, b, _⟩ => by omega)⟩
    · have ge : bs (sr (gj (rowI σ pa (fl (fun m => b2i (F m)) (gi σ pa) m)) fa) f) m = F m := by
        show bs (sr (gj σ fa) f) m = F m
        rw [← hF, fam_lt _ (by omega)]
      refine gX9_number_2 ⟨fun z => absurd ((c4096le (by omega)).mp z) (by omega), fun _ => ⟨h0, pa, h1, fa, h3, CI.of (d2 := 0) (mhas_R (N := 12800) (σ := rowI σ pa (fl (fun m => b2i (F m)) (gi σ pa) m)) h4 (by omega) (by omega) (by omega)) (by omega) (fun r τ1 _ q => ?_)⟩⟩
      obtain ⟨rfl, rfl⟩ := q
      rw [ge, nI_1]
      refine ⟨fun z => ⟨4096, h2, m, IXn (by omega) (by omega), fun τ ht => ?_⟩, fun z => ⟨4096, h2, m, IXn (by omega) (by omega), fun τ ht => ?_⟩⟩
      · rw [fillI _ _ _ _ _ _ z.symm] at ht
        rw [ht]; exact ih
      · have e : (1 : Int32) = b2i (F m) := by rw [(b2i_ne0 _).mp z]; rfl
        rw [fillI _ _ _ _ _ _ e] at ht
        rw [ht]; exact ih
  refine eX9_number ?_
  have := L 0 (Nat.zero_le _)
  rw [rowI_fl0] at this
  exact this
