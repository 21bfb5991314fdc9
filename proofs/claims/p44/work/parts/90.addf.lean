/-! ROWS of FamilyStore: addFamily. -/
theorem DV.cnt {σ : AH} {dg pa ke us me pl c nx v : Nat} {K : Nat → Nat × Nat × Nat} {den : Nat → Nat → Bool} {cnt cnt' : Nat → Nat} (V : DV σ dg pa ke us me pl c nx K den cnt v) (h1 : ∀ i, 2 ≤ i → i < nx → cnt' i = cnt i) (h2 : ∀ i, nx ≤ i → cnt' i = 0) : DV σ dg pa ke us me pl c nx K den cnt' v := by
  obtain ⟨D, Vk, Vn, Vv, Vu, Vc, Vm, Vi⟩ := V
  refine ⟨D, Vk, Vn, Vv, fun i a b => by rw [h1 i a b]; exact Vu i a b, h2, Vm, ?_⟩
  rw [Vi]
  apply congrArg nI
  refine ctp_congr (fun i hi => ⟨fun z => ⟨z.1, by rw [h1 i z.1 hi]; exact z.2⟩, fun z => ⟨z.1, by rw [← h1 i z.1 hi]; exact z.2⟩⟩)
theorem FamAt.fr2 {P : Nat → Prop} {σ σ' : AH} {own own' : Nat → Nat} {fm b b' f : Nat} {F : Nat → Bool} (h : FamAt σ own fm b f F) (Fr : FR P σ σ') (h0 : gr σ' fm f = gr σ fm f) (h1 : ∀ a, a < b → (own a = 25 ∨ own a = 26) → ¬ P a) (ho : ∀ a, a < b → own a ≠ 99 → own' a = own a) (hb : b ≤ b') : FamAt σ' own' fm b' f F := by
  obtain ⟨fo, row, k, x1, x2, x3, x4, x5, x6, x7, x8, x9, x10, x11, x12, x13⟩ := h
  have nf := h1 fo x12 (Or.inr x10)
  have nr := h1 row x13 (Or.inl x11)
  exact ⟨fo, row, k, by rw [h0]; exact x1, Fr.gh x2, by rw [Fr.gr nf]; exact x3, Fr.gh x4, by rw [Fr.gj nr]; exact x5, by rw [Fr.gi nf]; exact x6, by rw [Fr.gi nf]; exact x7, x8, x9, by rw [ho _ x12 (by rw [x10]; decide)]; exact x10, by rw [ho _ x13 (by rw [x11]; decide)]; exact x11, by omega, by omega⟩
/-- what a visit writes, by roles -/
def VW (r : Nat) : Prop := r = 5 ∨ r = 10 ∨ (21 ≤ r ∧ r ≤ 24)
theorem visit_fr {Γ : Gm} {σ σ' : AH} {own ad : Nat → Nat} {b ke us me pl : Nat} (O : OWc own ad b) (o : own us = 21 ∧ own me = 22 ∧ own pl = 23 ∧ own ke = 24) (hb : b ≤ lo Γ + hc σ) (F : FR (fun a => a = ad 4 ∨ dO (ad 9) ke us me pl (lo Γ + hc σ) a) σ σ') : FR (RP VW own b) σ σ' := F.mono (fun a ha => by
  rcases ha with z | z | z | z | z | z | z
  · exact Or.inl (by rw [z, (O 4 (by omega)).1]; unfold VW; omega)
  · exact Or.inl (by rw [z, (O 9 (by omega)).1]; unfold VW; omega)
  · exact Or.inl (by rw [z, o.2.2.2]; unfold VW; omega)
  · exact Or.inl (by rw [z, o.1]; unfold VW; omega)
  · exact Or.inl (by rw [z, o.2.1]; unfold VW; omega)
  · exact Or.inl (by rw [z, o.2.2.1]; unfold VW; omega)
  · exact Or.inr (by omega))
theorem addF_R {Γ : Gm} {d : Nat} {σ : AH} {own ad : Nat → Nat} {S : StT} {c w q : Nat} (R : RepC Γ σ own ad S c w) (hq : hs σ q = some (23, 64)) (oq : own q = 99) (hn : sN S < 200) (hd : 9 ≤ d) :
    RI Γ d MX8_addFamily [.ref (ad 0), .ref q] σ (fun r σ' => r = nI (sN S) ∧ ∃ own' c', RepC Γ σ' own' ad (stA S (fam (gj σ q))) c' w ∧ (∀ a, a < lo Γ + hc σ → a ≠ q → own' a = own a) ∧ FR (RP CW own (lo Γ + hc σ)) σ σ' ∧ hc σ' + 4 * c = hc σ + 4 * c' + 1 ∧ hv σ' + 5 * 2 ^ (c + 1) = hv σ + 5 * 2 ^ (c' + 1) + 3 ∧ c ≤ c') := by
  refine RUN.wf (fun W => ?_)
  have R' := R
  obtain ⟨O, x1, x2, x3, x4, x5, x6, x7, x8, x9⟩ := R'
  obtain ⟨ke, us, me, pl, nx, K, den, cnt, v, V, ⟨o1, o2, o3, o4⟩, y1, y2, y3, y4, y5⟩ := x7
  have hb : ∀ a x, hs σ a = some x → a < lo Γ + hc σ := W.1
  have qb := hb q _ hq
  have x16 := x1.2.2.2.2.2.2.2.2.2.2.2.2.2.2.2.2
  have rc200 : ctp (fun f => sR S f = true) 200 ≤ 200 := ctp_le _ _
  obtain ⟨s1, s2, s3, s4, s5⟩ := V.sh
  generalize hF : fam (gj σ q) = F
  have sF' : sup F := by rw [← hF]; exact fam_sup _
  have r25 := (O 3 (by omega)).1
  have n03 : ad 0 ≠ ad 3 := O.ne (by omega) (by omega) (by omega)
  refine eX8_addFamily ⟨R.x0, room_call R (fun z => absurd z (by omega)) (fun _ => ⟨R.x0, ad 3, x1.2.2.2.1, fun q7 σ8 hq7 e8 => ?_⟩) (by omega)⟩
  have F8 : FR (RP (fun _ => False) own (lo Γ + hc σ)) σ σ8 := by rw [e8, hq7]; exact FR.mk 4 3 W (Or.inr (Nat.le_refl _))
  have c8 : hc σ8 = hc σ + 1 := by rw [e8]; rfl
  have v8 : hv σ8 = hv σ + 3 := by rw [e8]; rfl
  have ne7 : ∀ a, a < lo Γ + hc σ → a ≠ q7 := fun a h => by omega
  have nF : ∀ a, a < lo Γ + hc σ → ¬ RP (fun _ => False) own (lo Γ + hc σ) a := fun a h z => z.elim id (fun z => by omega)
  refine CI.of (d2 := 1) (size_R (F8.gh hq) (by omega) (by omega)) (by omega) (fun r11 σ10 _ e10 => ?_)
  obtain ⟨e10, rfl⟩ := e10
  subst e10
  have g8q : gj σ10 q = gj σ q := F8.gj (nF q qb)
  rw [g8q, rct_fam, hF]
  have V8 : DV σ10 (ad 9) (ad 4) ke us me pl c nx K den cnt v := V.fr F8 (nF _ (O 9 (by omega)).2) (nF _ (hb _ _ s1)) (nF _ (hb _ _ s2)) (nF _ (hb _ _ s3)) (nF _ (hb _ _ s4))
  refine ⟨F8.gh R.x0, ad 9, by rw [F8.gr (nF _ (O 0 (by omega)).2)]; exact x1.2.2.2.2.2.2.2.1, F8.gh s5, ?_⟩
  refine CI.of (d2 := 8) (visit_R (sg := true) V8 (F8.gh hq) (by omega) (by omega) (fun i => by have := y2 i; omega) (by omega) (by omega) (fun z => by cases z)) (by omega) (fun r16 σ15 W15 vp => ?_)
  rw [g8q, hF] at vp
  obtain ⟨ke', us', me', pl', c', nx', K', den', cnt', V15, nle, KD, rfl, Ex, Cn, Lo, F15, rc, rv, oke, ous, ome, opl, cc⟩ := vp
  have F15' : FR (RP VW own (lo Γ + hc σ)) σ10 σ15 := visit_fr O ⟨o1, o2, o3, o4⟩ (by omega) F15
  have F015 : FR (RP VW own (lo Γ + hc σ)) σ σ15 := (F8.mono (fun a h => h.imp False.elim id)).trans F15'
  have h7 : hs σ15 q7 = some (4, 3) := F15'.gh (by rw [e8]; exact hs_mk_s _ _ _ _)
  refine CV.of (d2 := 1) (P := fun σ18 => σ18 = setI (setI (setR σ15 q7 0 (some q)) q7 1 (nI (cntF F))) q7 2 (nI (ctp (fun i => 2 ≤ i ∧ NP F (den' i)) nx'))) (eX4_init ⟨by omega, h7, fun σ3 e3 σ6 e6 σ9 e9 => ⟨rfl, by rw [e9, e6, e3]⟩⟩) (by omega) (fun σ18 _ e18 => ?_)
  have g18r : gr σ18 = up (gr σ15) q7 (up (gr σ15 q7) 0 (some q)) := by rw [e18]; rfl
  have g18i : gi σ18 q7 = up (up (gi σ15 q7) 1 (nI (cntF F))) 2 (nI (ctp (fun i => 2 ≤ i ∧ NP F (den' i)) nx')) := by
    rw [e18, gi_setI_s, gi_setI_s]; rfl
  have o18i : ∀ a, a ≠ q7 → gi σ18 a = gi σ15 a := fun a h => by rw [e18, gi_setI_n _ _ _ h, gi_setI_n _ _ _ h]; rfl
  have F18 : FR (fun a => a = q7) σ15 σ18 := by
    rw [e18]; exact ((FR.setR (P := fun a => a = q7) _ _ _ rfl).trans (FR.setI _ _ _ rfl)).trans (FR.setI _ _ _ rfl)
  have x06 : gi σ15 (ad 0) = gi σ (ad 0) := F015.gi (O.no (by omega) (by unfold VW; omega))
  refine ⟨200, F18.gh (F015.gh x1.2.2.2.2.2.2.2.2.2.2.2.2.2.2.1), sN S, by rw [R.n.1]; exact IXn (by omega) (by omega), F18.gh h7, fun σ25 e25 => ⟨by rw [e25]; exact F18.gh (F015.gh R.x0), fun σ30 e30 σ35 e35 => ?_⟩⟩
  have g25 : gi σ25 (ad 0) = gi σ (ad 0) := by rw [e25]; show gi σ18 (ad 0) = _; rw [o18i _ (ne7 _ (O 0 (by omega)).2), x06]
  have g30 : gi σ30 (ad 0) = up (gi σ (ad 0)) 6 (nI (sN S + 1)) := by rw [e30, gi_setI_s, g25, R.n.1, nI_1]
  have g35 : gi σ35 (ad 0) = up (up (gi σ (ad 0)) 6 (nI (sN S + 1))) 7 (sL S + 1) := by
    rw [e35, gi_setI_s, g30, up_ne _ _ (by decide), x2.2.2.2.2.1]
  have o35 : ∀ a, a ≠ ad 0 → gi σ35 a = gi σ18 a := fun a h => by
    rw [e35, gi_setI_n _ _ _ h, e30, gi_setI_n _ _ _ h, e25]; rfl
  have gr35 : gr σ35 = up (gr σ18) (ad 3) (up (gr σ18 (ad 3)) (sN S) (some q7)) := by rw [e35, e30, e25]; rfl
  have gj35 : gj σ35 = gj σ15 := by rw [e35, e30, e25, e18]; rfl
  have hs35 : hs σ35 = hs σ15 := by rw [e35, e30, e25, e18]; rfl
  have F25 : FR (fun a => a = ad 3) σ18 σ25 := by rw [e25]; exact FR.setR (P := fun a => a = ad 3) _ _ _ rfl
  have F35 : FR (fun a => a = ad 0) σ25 σ35 := by rw [e35, e30]; exact (FR.setI (P := fun a => a = ad 0) _ _ _ rfl).trans (FR.setI _ _ _ rfl)
  have FA : FR (fun a => RP VW own (lo Γ + hc σ) a ∨ a = ad 3 ∨ a = ad 0) σ σ35 :=
    ((F015.mono (fun a h => Or.inl h)).trans (F18.mono (fun a h => Or.inl (Or.inr (by rw [h]; omega))))).trans ((F25.mono (fun a h => Or.inr (Or.inl h))).trans (F35.mono (fun a h => Or.inr (Or.inr h))))
  have F15A : FR (fun a => a = q7 ∨ a = ad 3 ∨ a = ad 0) σ15 σ35 := (F18.mono (fun a h => Or.inl h)).trans ((F25.mono (fun a h => Or.inr (Or.inl h))).trans (F35.mono (fun a h => Or.inr (Or.inr h))))
  have noA : ∀ i, i < 20 → ¬ VW (i + 1) → i ≠ 3 → i ≠ 0 → ¬ (RP VW own (lo Γ + hc σ) (ad i) ∨ ad i = ad 3 ∨ ad i = ad 0) := fun i hi h h3 h0 z => by
    rcases z with z | z | z
    · exact O.no hi h z
    · exact O.ne hi (by omega) h3 z
    · exact O.ne hi (by omega) h0 z
  obtain ⟨t1, t2, t3, t4, t5⟩ := V15.sh
  have k7 : ∀ a n, hs σ15 a = some (22, n) → a ≠ q7 := fun a n h => hs_ne h h7 (show (22 : Nat) ≠ 4 by decide)
  have ke7 : ke' ≠ q7 := hs_ne t1 h7 (show (23 : Nat) ≠ 4 by decide)
  have q15 : hs σ15 q = some (23, 64) := F015.gh hq
  have qke : q ≠ ke' := by
    rcases oke with z | z
    · rw [z]; intro e; rw [← e, oq] at o4; omega
    · omega
  have nsm : us' ≠ me' ∧ us' ≠ pl' ∧ me' ≠ pl' := ⟨V15.1.2.2.2.2.2.2.2.2.2.2.2.1, V15.1.2.2.2.2.2.2.2.2.2.2.2.2.1, V15.1.2.2.2.2.2.2.2.2.2.2.2.2.2.1⟩
  have kuk : us' ≠ ke' ∧ me' ≠ ke' ∧ pl' ≠ ke' := ⟨hs_ne t2 t1 (show (22 : Nat) ≠ 23 by decide), hs_ne t3 t1 (show (22 : Nat) ≠ 23 by decide), hs_ne t4 t1 (show (22 : Nat) ≠ 23 by decide)⟩
  have quk : q ≠ us' ∧ q ≠ me' ∧ q ≠ pl' := ⟨hs_ne q15 t2 (show (23 : Nat) ≠ 22 by decide), hs_ne q15 t3 (show (23 : Nat) ≠ 22 by decide), hs_ne q15 t4 (show (23 : Nat) ≠ 22 by decide)⟩
  have q77 := ne7 q qb
  -- the new roles
  generalize hown : up (up (up (up (up (up own q 25) q7 26) us' 21) me' 22) pl' 23) ke' 24 = own'
  have w1 : own' ke' = 24 := by rw [← hown, up_same]
  have w2 : own' pl' = 23 := by rw [← hown, up_ne _ _ kuk.2.2, up_same]
  have w3 : own' me' = 22 := by rw [← hown, up_ne _ _ kuk.2.1, up_ne _ _ nsm.2.2, up_same]
  have w4 : own' us' = 21 := by rw [← hown, up_ne _ _ kuk.1, up_ne _ _ nsm.2.1, up_ne _ _ nsm.1, up_same]
  have w5 : own' q7 = 26 := by rw [← hown, up_ne _ _ (Ne.symm ke7), up_ne _ _ (Ne.symm (k7 _ _ t4)), up_ne _ _ (Ne.symm (k7 _ _ t3)), up_ne _ _ (Ne.symm (k7 _ _ t2)), up_same]
  have w6 : own' q = 25 := by rw [← hown, up_ne _ _ qke, up_ne _ _ quk.2.2, up_ne _ _ quk.2.1, up_ne _ _ quk.1, up_ne _ _ q77, up_same]
  have ho1 : ∀ a, a < lo Γ + hc σ → a ≠ q → own' a = own a := by
    intro a ha haq
    have ee : ∀ x x' r, own x = r → (x' = x ∨ lo Γ + hc σ10 ≤ x') → a = x' → own a = r := fun x x' r h1 h2 h3 => by
      rcases h2 with z | z
      · rw [h3, z]; exact h1
      · omega
    by_cases z1 : a = ke'
    · rw [ee ke ke' 24 o4 oke z1, z1]; exact w1
    · by_cases z2 : a = pl'
      · rw [ee pl pl' 23 o3 opl z2, z2]; exact w2
      · by_cases z3 : a = me'
        · rw [ee me me' 22 o2 ome z3, z3]; exact w3
        · by_cases z4 : a = us'
          · rw [ee us us' 21 o1 ous z4, z4]; exact w4
          · rw [← hown, up_ne _ _ z1, up_ne _ _ z2, up_ne _ _ z3, up_ne _ _ z4, up_ne _ _ (ne7 a ha), up_ne _ _ haq]
  have ho : ∀ a, a < lo Γ + hc σ → own a ≠ 99 → own' a = own a := fun a ha h => ho1 a ha (fun z => h (by rw [z]; exact oq))
  have hc35 : hc σ35 = hc σ15 := by rw [e35, e30, e25, e18]; rfl
  have hv35 : hv σ35 = hv σ15 := by rw [e35, e30, e25, e18]; rfl
  have hle : lo Γ + hc σ ≤ lo Γ + hc σ35 := Nat.add_le_add_left FA.1 _
  have rn : sR S (sN S) = false := x9.2.2.2.2.1 _ (Nat.le_refl _)
  have okS' : ∀ f, f ≠ sN S → okv (stA S F) f = okv S f := by
    intro f hf
    apply Bool.eq_iff_iff.mpr
    show okf (sN S + 1) (sR S) f = true ↔ okf (sN S) (sR S) f = true
    rw [okf_t, okf_t]
    exact ⟨fun z => ⟨by omega, z.2⟩, fun z => ⟨by omega, z.2⟩⟩
  have okn : okv (stA S F) (sN S) = true := okf_t.mpr ⟨Nat.lt_succ_self _, rn⟩
  have okn0 : okv S (sN S) = false := by
    cases z : okv S (sN S)
    · rfl
    · have := (okf_t.mp z).1
      omega
  have sFn : sF (stA S F) (sN S) = F := up_same _ _ _
  have sFo : ∀ f, f ≠ sN S → sF (stA S F) f = sF S f := fun f hf => up_ne _ _ hf
  have NT15 := V15.2.2.1
  have nx2 : 2 ≤ nx := V.1.2.2.2.2.2.2.2.2.2.2.2.2.2.2.2.2.2.2.1
  have sz := NT15.size (by omega)
  have nxb : nx' < 2 ^ 20 := by omega
  have cF : cardN (NP F) (ctp (fun i => 2 ≤ i ∧ NP F (den' i)) nx') := ⟨nx', den', NT15.2.2.2.1, Ex, rfl⟩
  -- the counts of users
  have cntE : ∀ i, 2 ≤ i → i < nx' → cnt' i = ctp (fun f => okv (stA S F) f = true ∧ NP (sF (stA S F) f) (den' i)) 200 := by
    intro i h2 hi
    have up1 := ctp_upd (P := fun f => okv S f = true ∧ NP (sF S f) (den' i)) (Q := fun f => okv (stA S F) f = true ∧ NP (sF (stA S F) f) (den' i)) (n := 200) (a := sN S) (by omega) (fun f _ hf => by rw [okS' f hf, sFo f hf])
    rw [bd_false.mpr (fun z => by rw [okn0] at z; exact absurd z.1 (by decide)), if_neg (by decide), Nat.add_zero] at up1
    rw [up1, Cn i h2 hi]
    have c0 : cnt i = ctp (fun f => okv S f = true ∧ NP (sF S f) (den' i)) 200 := by
      rcases Nat.lt_or_ge i nx with z | z
      · rw [y1 i h2 z, (KD i z).2]
      · rw [V.2.2.2.2.2.1 i z, ctp_none]
        intro f _ hf
        obtain ⟨j, j2, jn, je⟩ := y5 f _ hf.1 hf.2
        have := NT15.2.2.2.1 j i (by omega) hi (by rw [(KD j jn).2]; exact je)
        omega
    rw [c0]
    have : bd (okv (stA S F) (sN S) = true ∧ NP (sF (stA S F) (sN S)) (den' i)) = bd (NP F (den' i)) := bd_congr (by rw [sFn]; exact ⟨fun z => z.2, fun z => ⟨okn, z⟩⟩)
    rw [this]
    have e : ∀ (b : Bool) (k : Nat), cntv true k b = k + (if b = true then 1 else 0) := fun b k => by cases b <;> rfl
    exact e _ _
  refine ⟨_, rfl, ?_, own', c', ⟨O.to ho hle, ?_, ?_, x3.fr FA (noA 10 (by omega) (by unfold VW; omega) (by omega) (by omega)), x4.fr FA (noA 15 (by omega) (by unfold VW; omega) (by omega) (by omega)) (noA 16 (by omega) (by unfold VW; omega) (by omega) (by omega)) (noA 17 (by omega) (by unfold VW; omega) (by omega) (by omega)) (noA 18 (by omega) (by unfold VW; omega) (by omega) (by omega)), x5.fr FA (noA 13 (by omega) (by unfold VW; omega) (by omega) (by omega)) (noA 14 (by omega) (by unfold VW; omega) (by omega) (by omega)) ho hb, fun f hf => ?_, ?_, ?_, ?_⟩, ho1, ?_, by rw [hc35]; omega, by rw [hv35]; omega, cc⟩
  · rw [g35, up_ne _ _ (by decide), up_same, nI_pred]
  · have a18 : C1 σ18 ad := (x1.fr F015 (O.no (by omega) (by unfold VW; omega)) (O.no (by omega) (by unfold VW; omega))).fr F18 (ne7 _ (O 0 (by omega)).2) (ne7 _ (O 6 (by omega)).2)
    have a25 := a18.fr F25 n03 (O.ne (by omega) (by omega) (by omega))
    rw [e35, e30]; exact a25
  · have n1 := noA 1 (by omega) (by unfold VW; omega) (by omega) (by omega)
    have n2 := noA 2 (by omega) (by unfold VW; omega) (by omega) (by omega)
    have n19 := noA 19 (by omega) (by unfold VW; omega) (by omega) (by omega)
    obtain ⟨z1, z2, z3, z4, z5, z6, z7, z8, z9⟩ := x2
    unfold C2
    rw [g35, FA.gi n1, FA.gi n2, FA.gi n19]
    exact ⟨z1, z2, z3, rfl, rfl, z6, z7, z8, z9⟩
  · have gf : gr σ35 (ad 3) = up (gr σ (ad 3)) (sN S) (some q7) := by
      rw [gr35, up_same, F18.gr (ne7 _ (O 3 (by omega)).2), F015.gr (O.no (by omega) (by unfold VW; omega))]
    by_cases e : f = sN S
    · subst e
      refine ⟨fun z => by rw [okn] at z; exact absurd z (by decide), fun _ => ⟨q7, q, _, by rw [gf, up_same], by rw [hs35]; exact h7, ?_, by rw [hs35]; exact q15, ?_, ?_, ?_, ?_, by rw [sFn]; exact cF, w5, w6, by omega, by omega⟩⟩
      · rw [gr35, up_ne _ _ (Ne.symm (ne7 _ (O 3 (by omega)).2)), g18r, up_same, up_same]
      · rw [gj35, sFn, ← hF]
        congr 1
        exact F015.gj (RP_no oq qb (by unfold VW; omega))
      · rw [o35 _ (Ne.symm (ne7 _ (O 0 (by omega)).2)), g18i, up_ne _ _ (by decide), up_same, sFn]
      · rw [o35 _ (Ne.symm (ne7 _ (O 0 (by omega)).2)), g18i, up_same]
      · exact Nat.lt_of_le_of_lt (ctp_le _ _) nxb
    · refine ⟨fun z => ?_, fun z => ?_⟩
      · rw [gf, up_ne _ _ e]
        exact (x6 f hf).1 (by rw [← okS' f e]; exact z)
      · rw [sFo f e]
        refine ((x6 f hf).2 (by rw [← okS' f e]; exact z)).fr2 FA (by rw [gf, up_ne _ _ e]) (fun a ha h z => ?_) ho hle
        rcases z with z | z | z
        · exact RP_no (W := VW) rfl ha (by unfold VW; omega) z
        · rw [z, r25] at h; omega
        · rw [z, (O 0 (by omega)).1] at h; omega
  · refine ⟨ke', us', me', pl', nx', K', den', fun i => if i < 2 then 0 else cnt' i, v + 1, ?_, ⟨w4, w3, w2, w1⟩, fun i h2 hi => ?_, fun i => ?_, ?_, ?_, fun f g hf hg => ?_⟩
    · refine (V15.fr F15A ?_ ?_ ?_ ?_ ?_).cnt (fun i h2 _ => if_neg (by omega)) (fun i hi => ?_)
      · rintro (z | z | z)
        · exact ne7 _ (O 9 (by omega)).2 z
        · exact O.ne (by omega) (by omega) (by omega) z
        · exact O.ne (by omega) (by omega) (by omega) z
      · rintro (z | z | z)
        · exact ke7 z
        · exact hs_ne t1 (F015.gh x1.2.2.2.2.2.2.2.2.2.2.2.2.2.2.1) (show (23 : Nat) ≠ 25 by decide) z
        · exact hs_ne t1 (F015.gh R.x0) (show (23 : Nat) ≠ 6 by decide) z
      · rintro (z | z | z)
        · exact k7 _ _ t2 z
        · exact hs_ne t2 (F015.gh x1.2.2.2.2.2.2.2.2.2.2.2.2.2.2.1) (show (22 : Nat) ≠ 25 by decide) z
        · exact hs_ne t2 (F015.gh R.x0) (show (22 : Nat) ≠ 6 by decide) z
      · rintro (z | z | z)
        · exact k7 _ _ t3 z
        · exact hs_ne t3 (F015.gh x1.2.2.2.2.2.2.2.2.2.2.2.2.2.2.1) (show (22 : Nat) ≠ 25 by decide) z
        · exact hs_ne t3 (F015.gh R.x0) (show (22 : Nat) ≠ 6 by decide) z
      · rintro (z | z | z)
        · exact k7 _ _ t4 z
        · exact hs_ne t4 (F015.gh x1.2.2.2.2.2.2.2.2.2.2.2.2.2.2.1) (show (22 : Nat) ≠ 25 by decide) z
        · exact hs_ne t4 (F015.gh R.x0) (show (22 : Nat) ≠ 6 by decide) z
      · show (if i < 2 then 0 else cnt' i) = 0
        rw [if_neg (by omega)]
        exact V15.2.2.2.2.2.1 i hi
    · show (if i < 2 then 0 else cnt' i) = _
      rw [if_neg (by omega)]
      exact cntE i h2 hi
    · show (if i < 2 then 0 else cnt' i) ≤ 200
      split
      · omega
      · rcases Nat.lt_or_ge i nx' with z | z
        · rw [cntE i (by omega) z]; exact ctp_le _ _
        · rw [V15.2.2.2.2.2.1 i z]; omega
    · show v + 1 ≤ sN S + 1 + ctp (fun f => sR S f = true) 200
      omega
    · omega
    · by_cases e : f = sN S
      · rw [e, sFn] at hg
        exact Ex g hg
      · rw [okS' f e] at hf
        rw [sFo f e] at hg
        obtain ⟨i, i2, i3, i4⟩ := y5 f g hf hg
        exact ⟨i, i2, by omega, by rw [(KD i i3).2]; exact i4⟩
  · unfold nnr
    rw [FA.gr (noA 14 (by omega) (by unfold VW; omega) (by omega) (by omega))]
    exact x8
  · obtain ⟨z1, z2, z3, z4, z5, z6, z7, z8⟩ := x9
    refine ⟨z1, z2, by show sN S + 1 ≤ 200; omega, z4, fun i hi => z5 i (by have hi : sN S + 1 ≤ i := hi; omega), fun f hf => ?_, z7, z8⟩
    by_cases e : f = sN S
    · rw [e, sFn]; exact sF'
    · rw [okS' f e] at hf
      rw [sFo f e]; exact z6 f hf
  · refine FA.mono (fun a ha => ?_)
    rcases ha with z | z | z
    · rcases z with z | z
      · exact Or.inl (by unfold VW at z; unfold CW; omega)
      · exact Or.inr z
    · exact Or.inl (by rw [z, r25]; unfold CW; omega)
    · exact Or.inl (by rw [z, (O 0 (by omega)).1]; unfold CW; omega)

