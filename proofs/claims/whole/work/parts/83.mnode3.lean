/-! ROWS of the model: the table grows. -/
def NF (mo tp lw hg sl b : Nat) (σ σ' : AH) : Prop := FR (fun a => a = mo ∨ a = tp ∨ a = lw ∨ a = hg ∨ a = sl ∨ b ≤ a) σ σ' ∧ (∀ j, j ≠ 20 → gi σ' mo j = gi σ mo j) ∧ ∀ j, (j < 16 ∨ 20 ≤ j) → gr σ' mo j = gr σ mo j
theorem NF.refl (mo tp lw hg sl b : Nat) (σ : AH) : NF mo tp lw hg sl b σ σ := ⟨FR.refl _ _, fun _ _ => rfl, fun _ _ => rfl⟩
theorem NF.trans {mo tp lw hg sl b tp' lw' hg' sl' b' : Nat} {σ σ1 σ2 : AH} (h : NF mo tp lw hg sl b σ σ1) (k : NF mo tp' lw' hg' sl' b' σ1 σ2) (e1 : tp' = tp ∨ b ≤ tp') (e2 : lw' = lw ∨ b ≤ lw') (e3 : hg' = hg ∨ b ≤ hg') (e4 : sl' = sl ∨ b ≤ sl') (e5 : b ≤ b') : NF mo tp lw hg sl b σ σ2 := by
  refine ⟨h.1.trans (k.1.mono (fun a ha => ?_)), fun j hj => (k.2.1 j hj).trans (h.2.1 j hj), fun j hj => (k.2.2 j hj).trans (h.2.2 j hj)⟩
  rcases ha with z | z | z | z | z | z
  · exact Or.inl z
  · rcases e1 with y | y
    · exact Or.inr (Or.inl (z.trans y))
    · exact Or.inr (Or.inr (Or.inr (Or.inr (Or.inr (by omega)))))
  · rcases e2 with y | y
    · exact Or.inr (Or.inr (Or.inl (z.trans y)))
    · exact Or.inr (Or.inr (Or.inr (Or.inr (Or.inr (by omega)))))
  · rcases e3 with y | y
    · exact Or.inr (Or.inr (Or.inr (Or.inl (z.trans y))))
    · exact Or.inr (Or.inr (Or.inr (Or.inr (Or.inr (by omega)))))
  · rcases e4 with y | y
    · exact Or.inr (Or.inr (Or.inr (Or.inr (Or.inl (z.trans y)))))
    · exact Or.inr (Or.inr (Or.inr (Or.inr (Or.inr (by omega)))))
  · exact Or.inr (Or.inr (Or.inr (Or.inr (Or.inr (by omega)))))
theorem newN_g {σ : AH} {mo tp lw hg sl c n p t l h : Nat} {Kr : Nat → Nat × Nat × Nat} (N : NTab σ mo tp lw hg sl c n Kr) : gi (newN σ mo tp lw hg sl n p t l h) mo = up (gi σ mo) 20 (nI (n + 1)) ∧ gi (newN σ mo tp lw hg sl n p t l h) sl = up (gi σ sl) p (nI n) ∧ gi (newN σ mo tp lw hg sl n p t l h) tp = up (gi σ tp) n (nI t) ∧ gi (newN σ mo tp lw hg sl n p t l h) lw = up (gi σ lw) n (nI l) ∧ gi (newN σ mo tp lw hg sl n p t l h) hg = up (gi σ hg) n (nI h) ∧ ∀ b, b ≠ mo → b ≠ sl → b ≠ tp → b ≠ lw → b ≠ hg → gi (newN σ mo tp lw hg sl n p t l h) b = gi σ b := by
  obtain ⟨N0, N1, N2, N3, N4, N5, N6, N7, N8, ⟨m1, m2, m3, m4, m5, m6⟩, N9, N10, N11, N12, N13, N14, N15⟩ := N
  have o1 : tp ≠ mo := hs_ne N5 N0 (show (22 : Nat) ≠ 7 by decide)
  have o2 : lw ≠ mo := hs_ne N6 N0 (show (22 : Nat) ≠ 7 by decide)
  have o3 : hg ≠ mo := hs_ne N7 N0 (show (22 : Nat) ≠ 7 by decide)
  have o4 : sl ≠ mo := hs_ne N8 N0 (show (22 : Nat) ≠ 7 by decide)
  unfold newN
  refine ⟨?_, ?_, ?_, ?_, ?_, fun b b1 b2 b3 b4 b5 => ?_⟩
  · rw [gi_setI_s, gi_setI_n _ _ _ (Ne.symm o3), gi_setI_n _ _ _ (Ne.symm o2), gi_setI_n _ _ _ (Ne.symm o1), gi_setI_n _ _ _ (Ne.symm o4)]
  · rw [gi_setI_n _ _ _ o4, gi_setI_n _ _ _ (Ne.symm m6), gi_setI_n _ _ _ (Ne.symm m5), gi_setI_n _ _ _ (Ne.symm m3), gi_setI_s]
  · rw [gi_setI_n _ _ _ o1, gi_setI_n _ _ _ m2, gi_setI_n _ _ _ m1, gi_setI_s, gi_setI_n _ _ _ m3]
  · rw [gi_setI_n _ _ _ o2, gi_setI_n _ _ _ m4, gi_setI_s, gi_setI_n _ _ _ (Ne.symm m1), gi_setI_n _ _ _ m5]
  · rw [gi_setI_n _ _ _ o3, gi_setI_s, gi_setI_n _ _ _ (Ne.symm m4), gi_setI_n _ _ _ (Ne.symm m2), gi_setI_n _ _ _ m6]
  · rw [gi_setI_n _ _ _ b1, gi_setI_n _ _ _ b5, gi_setI_n _ _ _ b4, gi_setI_n _ _ _ b3, gi_setI_n _ _ _ b2]
theorem newN_nf {σ : AH} {mo tp lw hg sl c n p t l h : Nat} (b : Nat) {Kr : Nat → Nat × Nat × Nat} (N : NTab σ mo tp lw hg sl c n Kr) : NF mo tp lw hg sl b σ (newN σ mo tp lw hg sl n p t l h) := by
  refine ⟨?_, fun j hj => ?_, fun j hj => rfl⟩
  · unfold newN
    exact ((((FR.setI _ _ _ (Or.inr (Or.inr (Or.inr (Or.inr (Or.inl rfl)))))).trans (FR.setI _ _ _ (Or.inr (Or.inl rfl)))).trans (FR.setI _ _ _ (Or.inr (Or.inr (Or.inl rfl))))).trans (FR.setI _ _ _ (Or.inr (Or.inr (Or.inr (Or.inl rfl)))))).trans (FR.setI _ _ _ (Or.inl rfl))
  · rw [(newN_g N).1, up_ne _ _ hj]
theorem newN_tab {σ : AH} {mo tp lw hg sl c n p t l h : Nat} {Kr : Nat → Nat × Nat × Nat} (N : NTab σ mo tp lw hg sl c n Kr) (ht : t < 12) (hl : l < 2 ^ 20) (hh : h < 2 ^ 20) (hp : p < 2 ^ (c + 2)) (fr : freeM (gi σ sl) (mst (t, l, h) (2 ^ (c + 2))) (2 ^ (c + 2)) p) (lt : n < 2 ^ c) : NTab (newN σ mo tp lw hg sl n p t l h) mo tp lw hg sl c (n + 1) (up Kr n (t, l, h)) := by
  obtain ⟨g1, g2, g3, g4, g5, -⟩ := newN_g (p := p) (t := t) (l := l) (h := h) N
  obtain ⟨N0, N1, N2, N3, N4, N5, N6, N7, N8, m, N9, N10, N11, N12, N13, N14, N15⟩ := N
  have cp : 2 ^ c ≤ 2 ^ 20 := Nat.pow_le_pow_right (by decide) N12
  refine ⟨N0, N1, N2, N3, N4, N5, N6, N7, N8, m, by rw [g1, up_same], by omega, N11, N12, fun i hi => ?_, ?_, fun i hi => ?_⟩
  · rw [g3, g4, g5]
    by_cases q : i = n
    · subst q
      rw [up_same, up_same, up_same, up_same]; exact ⟨rfl, rfl, rfl⟩
    · rw [up_ne _ _ q, up_ne _ _ q, up_ne _ _ q, up_ne _ _ q]; exact N13 i (by omega)
  · rw [g2]
    refine MT.insert (by omega) hp (N14.cong (Nat.two_pow_pos _) (fun _ _ => rfl) (fun i hi => by
      show mst (up Kr n (t, l, h) i) _ = mst (Kr i) _
      rw [up_ne _ _ (by omega)])) ?_
    show freeM (gi σ sl) (mst (up Kr n (t, l, h) n) _) _ p
    rw [up_same]; exact fr
  · by_cases q : i = n
    · subst q
      rw [up_same]; exact ⟨ht, hl, hh⟩
    · rw [up_ne _ _ q]; exact N15 i (by omega)
theorem up_id {α : Type} (f : Nat → α) (k : Nat) : up f k (f k) = f := by
  funext j
  unfold up
  split
  · rename_i q; rw [q]
  · rfl
theorem longer_k {Γ : Gm} {d : Nat} {σ : AH} {a n mo j : Nat} (W : WF Γ σ) (h0 : hs σ mo = some (7, 27)) (ha : hs σ a = some (22, n)) (hn : n < 2 ^ 24) : RQ Γ d MX9_longer [.ref a] σ (fun r σ' => r = some (lo Γ + hc σ) ∧ ∀ σ2, σ2 = setR σ' mo j (some (lo Γ + hc σ)) → hs σ2 (lo Γ + hc σ) = some (22, 2 * n) ∧ (∀ i, i < n → gi σ2 (lo Γ + hc σ) i = gi σ a i) ∧ (∀ b, b ≠ lo Γ + hc σ → gi σ2 b = gi σ b) ∧ gr σ2 mo = up (gr σ mo) j (some (lo Γ + hc σ)) ∧ FR (fun b => b = mo ∨ lo Γ + hc σ ≤ b) σ σ2 ∧ hc σ2 = hc σ + 1 ∧ hv σ2 = hv σ + 2 * n) := by
  have nm : mo ≠ lo Γ + hc σ := fresh_ne W h0
  refine (longer_R ha hn).post (fun o σ' _ q => ?_)
  obtain ⟨r, hr, rfl, f, e, f1, f2⟩ := q
  refine ⟨_, hr, rfl, fun σ2 e2 => ?_⟩
  subst e
  subst e2
  refine ⟨hs_mk_s _ _ _ _, fun i hi => ?_, fun b hb => ?_, ?_, ?_, rfl, rfl⟩
  · show gi (rowI (mk σ (lo Γ + hc σ) 22 (2 * n)) (lo Γ + hc σ) f) (lo Γ + hc σ) i = _
    rw [gi_row]; exact f1 i hi
  · show gi (rowI (mk σ (lo Γ + hc σ) 22 (2 * n)) (lo Γ + hc σ) f) b = _
    rw [gi_rown _ _ hb]; exact gi_mk_n σ 22 (2 * n) hb
  · rw [gr_setR_s]
    show up (gr (mk σ (lo Γ + hc σ) 22 (2 * n)) mo) j _ = _
    rw [gr_mk_n σ 22 (2 * n) nm]
  · exact ((FR.mk 22 (2 * n) W (Or.inr (Nat.le_refl _))).trans (FR.rowI _ _ (Or.inr (Nat.le_refl _)))).trans (FR.setR _ _ _ (Or.inl rfl))
theorem grow_R {Γ : Gm} {d : Nat} {σ : AH} {mo tp lw hg sl c n : Nat} {Kr : Nat → Nat × Nat × Nat} (N : NTab σ mo tp lw hg sl c n Kr) (hc18 : c ≤ 18) (dj : ∀ i j, i < n → j < n → Kr i = Kr j → i = j) (nz : ∀ i, i < n → (Kr i).2.2 ≠ 0) (hd : 3 ≤ d) : RV Γ d MX9_grow [.ref mo] σ (fun σ' => ∃ tp' lw' hg' sl', NTab σ' mo tp' lw' hg' sl' (c + 1) n Kr ∧ (lo Γ + hc σ ≤ tp' ∧ lo Γ + hc σ ≤ lw' ∧ lo Γ + hc σ ≤ hg' ∧ lo Γ + hc σ ≤ sl') ∧ NF mo tp lw hg sl (lo Γ + hc σ) σ σ' ∧ hc σ' = hc σ + 4 ∧ hv σ' = hv σ + 7 * 2 ^ (c + 1) ∧ (∀ b, b ≠ mo → b < lo Γ + hc σ → gi σ' b = gi σ b)) := by
  refine RUN.wf (fun W => ?_)
  obtain ⟨N0, N1, N2, N3, N4, N5, N6, N7, N8, m, N9, N10, N11, N12, N13, N14, N15⟩ := N
  have cp : 2 ^ c ≤ 2 ^ 18 := Nat.pow_le_pow_right (by decide) hc18
  have p1 : 2 ^ (c + 1) = 2 * 2 ^ c := by rw [Nat.pow_succ]; omega
  have p2 : 2 ^ (c + 2) = 4 * 2 ^ c := by rw [Nat.pow_add]; omega
  have p3 : 2 ^ (c + 1 + 2) = 8 * 2 ^ c := by rw [Nat.pow_add, p1]; omega
  have nmo := W.1 mo _ N0
  have ntp := W.1 tp _ N5
  have nlw := W.1 lw _ N6
  have nhg := W.1 hg _ N7
  generalize hq1 : lo Γ + hc σ = q1 at nmo ntp nlw nhg ⊢
  refine eX9_grow ⟨N0, tp, N1, CR.of (d2 := 1) (longer_k (j := 16) W N0 N5 (by omega)) (by omega) (fun r σ4 W4 k => ?_)⟩
  obtain ⟨rfl, k⟩ := k
  rw [hq1] at k
  refine ⟨q1, by rw [hq1], ?_⟩
  obtain ⟨a1, a2, a3, a4, a5, a6, a7⟩ := k _ rfl
  refine ⟨a5.gh N0 |> fun z => z, fun σ7 e7 => ?_⟩
  subst e7
  generalize hσ7 : setR σ4 mo 16 (some q1) = σ7 at a1 a2 a3 a4 a5 a6 a7
  have W7 : WF Γ σ7 := by rw [← hσ7]; exact W4.upd (n := 27) (by have := a5.gh N0; rw [← hσ7] at this; exact this) (by omega) rfl rfl (fun _ _ => rfl)
  refine ⟨lw, by rw [a4, up_ne _ _ (by decide)]; exact N2, CR.of (d2 := 1) (longer_k (j := 17) W7 (a5.gh N0) (a5.gh N6) (by omega)) (by omega) (fun r σ12 W12 k => ?_)⟩
  obtain ⟨rfl, k⟩ := k
  have hq2 : lo Γ + hc σ7 = q1 + 1 := by omega
  rw [hq2] at k
  refine ⟨q1 + 1, by rw [hq2], ?_⟩
  obtain ⟨b1, b2, b3, b4, b5, b6, b7⟩ := k _ rfl
  refine ⟨b5.gh (a5.gh N0) |> fun z => z, fun σ15 e15 => ?_⟩
  subst e15
  generalize hσ15 : setR σ12 mo 17 (some (q1 + 1)) = σ15 at b1 b2 b3 b4 b5 b6 b7
  have W15 : WF Γ σ15 := by rw [← hσ15]; exact W12.upd (n := 27) (by have := b5.gh (a5.gh N0); rw [← hσ15] at this; exact this) (by omega) rfl rfl (fun _ _ => rfl)
  refine ⟨hg, by rw [b4, up_ne _ _ (by decide), a4, up_ne _ _ (by decide)]; exact N3, CR.of (d2 := 1) (longer_k (j := 18) W15 (b5.gh (a5.gh N0)) (b5.gh (a5.gh N7)) (by omega)) (by omega) (fun r σ20 W20 k => ?_)⟩
  obtain ⟨rfl, k⟩ := k
  have hq3 : lo Γ + hc σ15 = q1 + 2 := by omega
  rw [hq3] at k
  refine ⟨q1 + 2, by rw [hq3], ?_⟩
  obtain ⟨c1, c2, c3, c4, c5, c6, c7⟩ := k _ rfl
  refine ⟨c5.gh (b5.gh (a5.gh N0)) |> fun z => z, fun σ23 e23 => ?_⟩
  subst e23
  generalize hσ23 : setR σ20 mo 18 (some (q1 + 2)) = σ23 at c1 c2 c3 c4 c5 c6 c7
  have W23 : WF Γ σ23 := by rw [← hσ23]; exact W20.upd (n := 27) (by have := c5.gh (b5.gh (a5.gh N0)); rw [← hσ23] at this; exact this) (by omega) rfl rfl (fun _ _ => rfl)
  have r23 : gr σ23 mo = up (up (up (gr σ mo) 16 (some q1)) 17 (some (q1 + 1))) 18 (some (q1 + 2)) := by rw [c4, b4, a4]
  refine ⟨sl, by rw [r23, up_ne _ _ (by decide), up_ne _ _ (by decide), up_ne _ _ (by decide)]; exact N4, 2 ^ (c + 2), c5.gh (b5.gh (a5.gh N8)), 2 * 2 ^ (c + 2), by rw [show (2 : Int32) * nI (2 ^ (c + 2)) = nI (2 * 2 ^ (c + 2)) from pk_mul 2 _]; exact nI_toInt (by omega), by omega, fun q33 σ34 hq33 e34 => ?_⟩
  have hq4 : q33 = q1 + 3 := by omega
  subst hq4
  have n7 : mo ≠ q1 + 3 := by omega
  refine ⟨by rw [e34, hs_mk_n _ _ _ n7]; exact c5.gh (b5.gh (a5.gh N0)), fun σ37 e37 => ?_⟩
  have h37 : hs σ37 mo = some (7, 27) := by rw [e37]; show hs σ34 mo = _; rw [e34, hs_mk_n _ _ _ n7]; exact c5.gh (b5.gh (a5.gh N0))
  have s37 : hs σ37 (q1 + 3) = some (22, 2 * 2 ^ (c + 2)) := by rw [e37]; show hs σ34 (q1 + 3) = _; rw [e34]; exact hs_mk_s _ _ _ _
  have r37 : gr σ37 mo = up (up (up (up (gr σ mo) 16 (some q1)) 17 (some (q1 + 1))) 18 (some (q1 + 2))) 19 (some (q1 + 3)) := by rw [e37, gr_setR_s, e34, gr_mk_n _ _ _ n7, r23]
  have i37 : ∀ b, b ≠ q1 + 3 → gi σ37 b = gi σ23 b := fun b hb => by rw [e37]; show gi σ34 b = _; rw [e34]; exact gi_mk_n σ23 22 _ hb
  have F37 : FR (fun b => b = mo ∨ q1 ≤ b) σ σ37 := by
    refine ((a5.trans (b5.mono (fun b hb => hb.imp id (fun z => by omega)))).trans (c5.mono (fun b hb => hb.imp id (fun z => by omega)))).trans ?_
    rw [e37, e34]
    refine FR.trans (σ1 := mk σ23 (q1 + 3) 22 (2 * 2 ^ (c + 2))) ?_ (FR.setR _ _ _ (Or.inl rfl))
    rw [hq33]
    exact FR.mk 22 _ W23 (Or.inr (by omega))
  refine CV.of (d2 := 0) (clearNodes_R (N := 2 * 2 ^ (c + 2)) h37 (by rw [r37, up_same]) s37 (by omega)) (by omega) (fun σ41 W41 e41 => ?_)
  have g41 : gi σ37 mo 20 = nI n := by rw [i37 _ n7, c3 _ (by omega), b3 _ (by omega), a3 _ (by omega)]; exact N9
  rw [g41]
  have i41 : ∀ b, b ≠ q1 + 3 → b ≠ mo → gi σ41 b = gi σ23 b := fun b hb hb2 => by rw [e41, gi_rown _ _ hb, gi_setI_n _ _ _ hb2, i37 b hb]
  have m41 : gi σ41 mo = up (gi σ mo) 20 0 := by rw [e41, gi_rown _ _ n7, gi_setI_s, i37 _ n7, c3 _ (by omega), b3 _ (by omega), a3 _ (by omega)]
  have sl41 : ∀ p, p < 2 ^ (c + 1 + 2) → gi σ41 (q1 + 3) p = -1 := fun p hp => by rw [e41, gi_row, fl_in (by omega)]
  have h41 : hs σ41 = hs σ37 := by rw [e41]; rfl
  have gr41 : gr σ41 = gr σ37 := by rw [e41]; rfl
  have t41 : ∀ i, i < n → gi σ41 q1 i = nI (Kr i).1 := fun i hi => by
    rw [i41 _ (by omega) (by omega), c3 _ (by omega), b3 _ (by omega), a2 i (by omega)]; exact (N13 i hi).1
  have l41 : ∀ i, i < n → gi σ41 (q1 + 1) i = nI (Kr i).2.1 := fun i hi => by
    rw [i41 _ (by omega) (by omega), c3 _ (by omega), b2 i (by omega), a3 _ (by omega)]; exact (N13 i hi).2.1
  have hg41 : ∀ i, i < n → gi σ41 (q1 + 2) i = nI (Kr i).2.2 := fun i hi => by
    rw [i41 _ (by omega) (by omega), c2 i (by omega), b3 _ (by omega), a3 _ (by omega)]; exact (N13 i hi).2.2
  have s1 : hs σ41 q1 = some (22, 2 ^ (c + 1)) := by rw [h41, e37]; show hs σ34 q1 = _; rw [e34, hs_mk_n _ _ _ (by omega), p1]; exact c5.gh (b5.gh a1)
  have s2 : hs σ41 (q1 + 1) = some (22, 2 ^ (c + 1)) := by rw [h41, e37]; show hs σ34 (q1 + 1) = _; rw [e34, hs_mk_n _ _ _ (by omega), p1]; exact c5.gh b1
  have s3 : hs σ41 (q1 + 2) = some (22, 2 ^ (c + 1)) := by rw [h41, e37]; show hs σ34 (q1 + 2) = _; rw [e34, hs_mk_n _ _ _ (by omega), p1]; exact c1
  have s4 : hs σ41 (q1 + 3) = some (22, 2 ^ (c + 1 + 2)) := by rw [h41, s37, p2, p3]; congr 2; omega
  have T41 : NTab σ41 mo q1 (q1 + 1) (q1 + 2) (q1 + 3) (c + 1) 0 Kr := by
    refine ⟨by rw [h41]; exact h37, by rw [gr41, r37, up_ne _ _ (by decide), up_ne _ _ (by decide), up_ne _ _ (by decide), up_same], by rw [gr41, r37, up_ne _ _ (by decide), up_ne _ _ (by decide), up_same], by rw [gr41, r37, up_ne _ _ (by decide), up_same], by rw [gr41, r37, up_same], s1, s2, s3, s4, ⟨by omega, by omega, by omega, by omega, by omega, by omega⟩, by rw [m41, up_same]; rfl, by omega, by omega, by omega, fun i hi => absurd hi (by omega), MT.empty _ _ _ sl41, fun i hi => absurd hi (by omega)⟩
  have F41 : FR (fun b => b = mo ∨ q1 ≤ b) σ σ41 := by
    rw [e41]; exact (F37.trans (FR.setI _ _ _ (Or.inl rfl))).trans (FR.rowI _ _ (Or.inr (by omega)))
  have hc41 : hc σ41 = hc σ + 4 := by rw [e41]; show hc σ37 = _; rw [e37]; show hc σ34 = _; rw [e34]; show hc σ23 + 1 = _; omega
  have hv41 : hv σ41 = hv σ + 7 * 2 ^ (c + 1) := by rw [e41]; show hv σ37 = _; rw [e37]; show hv σ34 = _; rw [e34]; show hv σ23 + _ = _; omega
  have NF41 : NF mo tp lw hg sl q1 σ σ41 := by
    refine ⟨F41.mono (fun b hb => hb.elim Or.inl (fun z => Or.inr (Or.inr (Or.inr (Or.inr (Or.inr z)))))), fun j hj => by rw [m41, up_ne _ _ hj], fun j hj => ?_⟩
    rw [gr41, r37, up_ne _ _ (by omega), up_ne _ _ (by omega), up_ne _ _ (by omega), up_ne _ _ (by omega)]
  have o41 : ∀ b, b ≠ mo → b < q1 → gi σ41 b = gi σ b := fun b hb hb2 => F41.gi (fun z => z.elim hb (by omega))
  have L : ∀ k, k ≤ n → ∀ τ, NTab τ mo q1 (q1 + 1) (q1 + 2) (q1 + 3) (c + 1) k Kr → (∀ i, i < n → gi τ q1 i = nI (Kr i).1 ∧ gi τ (q1 + 1) i = nI (Kr i).2.1 ∧ gi τ (q1 + 2) i = nI (Kr i).2.2) → NF mo tp lw hg sl q1 σ τ → hc τ = hc σ + 4 → hv τ = hv σ + 7 * 2 ^ (c + 1) → (∀ b, b ≠ mo → b < q1 → gi τ b = gi σ b) → EV Γ MX9_grow d 57 [some (.ref mo), some (.int (nI n)), some (.int (nI k))] [] τ (fun oc σ' => oc = .inl none ∧ ∃ tp' lw' hg' sl', NTab σ' mo tp' lw' hg' sl' (c + 1) n Kr ∧ (q1 ≤ tp' ∧ q1 ≤ lw' ∧ q1 ≤ hg' ∧ q1 ≤ sl') ∧ NF mo tp lw hg sl q1 σ σ' ∧ hc σ' = hc σ + 4 ∧ hv σ' = hv σ + 7 * 2 ^ (c + 1) ∧ (∀ b, b ≠ mo → b < q1 → gi σ' b = gi σ b)) := by
    refine upto n ?_ (fun k hk ih => ?_)
    · intro τ T A F x1 x2 x3
      exact gX9_grow_57 ⟨fun _ => ⟨rfl, q1, q1 + 1, q1 + 2, q1 + 3, T, ⟨by omega, by omega, by omega, by omega⟩, F, x1, x2, x3⟩, fun z => absurd (nI_le (Nat.le_refl _) (by omega)) z⟩
    · intro τ T A F x1 x2 x3
      have T' := T
      obtain ⟨T0, T1, T2, T3, T4, T5, T6, T7, T8, _, T9, T10, T11, T12, T13, T14, T15⟩ := T'
      obtain ⟨A1, A2, A3⟩ := A k hk
      obtain ⟨K1, K2, K3⟩ := N15 k hk
      refine gX9_grow_57 ⟨fun z => absurd ((nI_leI (by omega) (by omega)).mp z) (by omega), fun _ => ⟨T0, q1, T1, 2 ^ (c + 1), T5, k, IXn (by omega) (by omega), q1 + 1, T2, 2 ^ (c + 1), T6, k, IXn (by omega) (by omega), q1 + 2, T3, 2 ^ (c + 1), T7, k, IXn (by omega) (by omega), ?_⟩⟩
      rw [A1, A2, A3]
      refine CI.of (d2 := 0) (P := fun r τ' => r = nI (k + 2) ∧ ∃ p, p < 2 ^ (c + 1 + 2) ∧ freeM (gi τ (q1 + 3)) (mst ((Kr k).1, (Kr k).2.1, (Kr k).2.2) (2 ^ (c + 1 + 2))) (2 ^ (c + 1 + 2)) p ∧ k < 2 ^ (c + 1) ∧ τ' = newN τ mo q1 (q1 + 1) (q1 + 2) (q1 + 3) k p (Kr k).1 (Kr k).2.1 (Kr k).2.2) (nodeS_R T K1 K2 K3 (nz k hk) (fun i hi ek => ?_) (fun _ p hp fr lt => ⟨rfl, p, hp, fr, lt, rfl⟩) (fun z => absurd z (by omega))) (by omega) (fun r τ' _ q => ?_)
      · have := dj i k (by omega) hk (ek.trans (by rfl))
        omega
      · obtain ⟨rfl, p, hp, fr, lt, rfl⟩ := q
        refine ⟨fun _ => ?_, fun z => absurd (nI_add k 2).symm z⟩
        rw [nI_1]
        have T2' := newN_tab T K1 K2 K3 hp fr lt
        have ku : up Kr k ((Kr k).1, (Kr k).2.1, (Kr k).2.2) = Kr := up_id Kr k
        rw [ku] at T2'
        obtain ⟨g1, g2, g3, g4, g5, g6⟩ := newN_g (p := p) (t := (Kr k).1) (l := (Kr k).2.1) (h := (Kr k).2.2) T
        refine ih _ T2' (fun i hi => ?_) (F.trans (newN_nf q1 T) (Or.inr (Nat.le_refl _)) (Or.inr (by omega)) (Or.inr (by omega)) (Or.inr (by omega)) (Nat.le_refl _)) x1 x2 (fun b hb hb2 => by rw [g6 b hb (by omega) (by omega) (by omega) (by omega)]; exact x3 b hb hb2)
        rw [g3, g4, g5]
        by_cases z : i = k
        · subst z
          rw [up_same, up_same, up_same]; exact ⟨rfl, rfl, rfl⟩
        · rw [up_ne _ _ z, up_ne _ _ z, up_ne _ _ z]; exact A i hi
  exact L 0 (Nat.zero_le _) σ41 T41 (fun i hi => ⟨t41 i hi, l41 i hi, hg41 i hi⟩) NF41 hc41 hv41 o41
