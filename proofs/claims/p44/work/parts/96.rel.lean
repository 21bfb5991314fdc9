/-! ROWS of FamilyStore: a family released; a cost set. -/
def aRel (S : StT) (f : Int32) : AnsT := if fcd S f = 1 then (1, 0, S) else if fcd S f = 2 then (2, 0, S) else (0, sL S - 1, stR S (ixF f))
section RL
variable {Γ : Gm} {d : Nat} {σ : AH} {own ad : Nat → Nat} {S : StT} {c w : Nat}
theorem release_R {f : Int32} (R : RepC Γ σ own ad S c w) (hd : 11 ≤ d) : CLM Γ d MX8_release [.ref (ad 0), .int f] σ own ad c w [IOB, NSE] (aRel S f) := by
  refine RUN.wf (fun W => eX8_release ⟨R.x0, fo_call R (fun e => ?_) (fun e => ?_) (fun fo A => ?_) (by omega)⟩)
  · have hA : aRel S f = (1, 0, S) := if_pos e
    rw [hA]; exact ⟨rfl, StepC.thr R W⟩
  · have hA : aRel S f = (2, 0, S) := (if_neg (by omega)).trans (if_pos e)
    rw [hA]; exact ⟨rfl, StepC.thr R W⟩
  obtain ⟨ra, ka, a0, a1, a2, a3, a4, a5, a6, a7, a8, a9, a10, a11, a12, a13, a14, a15, a16⟩ := A
  have hA : aRel S f = (0, sL S - 1, stR S (ixF f)) := (if_neg (by omega)).trans (if_neg (by omega))
  rw [hA]
  have R' := R
  obtain ⟨O, x1, x2, x3, x4, x5, x6, x7, x8, x9⟩ := R'
  obtain ⟨ke, us, me, pl, nx, K, den, cnt, v, V, ⟨o1, o2, o3, o4⟩, y1, y2, y3, y4, y5⟩ := x7
  have hb : ∀ a x, hs σ a = some x → a < lo Γ + hc σ := W.1
  have rc200 : ctp (fun f => sR S f = true) 200 ≤ 200 := ctp_le _ _
  obtain ⟨s1, s2, s3, s4, s5⟩ := V.sh
  generalize hk : ixF f = k at *
  have r25 := (O 3 (by omega)).1
  have n2 := x9.2.2.1
  refine ⟨R.x0, ad 9, x1.2.2.2.2.2.2.2.1, a5, ra, a6, s5, ?_⟩
  have nx2 : 2 ≤ nx := V.1.2.2.2.2.2.2.2.2.2.2.2.2.2.2.2.2.2.2.1
  refine CI.of (d2 := 9) (visit_R (sg := false) V a7 (by omega) (by omega) (fun i => by have := y2 i; omega) (by omega) (by omega) (fun _ g hg => ?_)) (by omega) (fun r16 σ15 W15 vp => ?_)
  · rw [a8] at hg
    obtain ⟨i, i2, i3, i4⟩ := y5 k g a2 hg
    refine ⟨i, i2, i3, i4, ?_⟩
    rw [y1 i i2 i3]
    exact ctp_pos.mpr ⟨k, a3, a2, by rw [i4]; exact hg⟩
  rw [a8] at vp
  obtain ⟨ke', us', me', pl', c', nx', K', den', cnt', V15, nle, KD, rfl, Ex, Cn, Lo, F15, rc, rv, oke, ous, ome, opl, cc⟩ := vp
  have F015 : FR (RP VW own (lo Γ + hc σ)) σ σ15 := visit_fr O ⟨o1, o2, o3, o4⟩ (by omega) F15
  have x06 : gi σ15 (ad 0) = gi σ (ad 0) := F015.gi (O.no (by omega) (by unfold VW; omega))
  refine ⟨F015.gh R.x0, ad 3, by rw [F015.gr (O.no (by omega) (by unfold VW; omega))]; exact x1.2.2.2.1, 200, F015.gh x1.2.2.2.2.2.2.2.2.2.2.2.2.2.2.1, k, by rw [a1]; exact IXn a3 (by omega), fun σ20 e20 σ24 e24 => ?_⟩
  have g20 : gi σ20 (ad 0) = gi σ (ad 0) := by rw [e20]; exact x06
  have g24 : gi σ24 (ad 0) = up (gi σ (ad 0)) 7 (sL S - 1) := by rw [e24, gi_setI_s, g20, x2.2.2.2.2.1]
  have F20 : FR (fun a => a = ad 3) σ15 σ20 := by rw [e20]; exact FR.setR (P := fun a => a = ad 3) _ _ _ rfl
  have F24 : FR (fun a => a = ad 0) σ20 σ24 := by rw [e24]; exact FR.setI (P := fun a => a = ad 0) _ _ _ rfl
  have FA : FR (fun a => RP VW own (lo Γ + hc σ) a ∨ a = ad 3 ∨ a = ad 0) σ σ24 :=
    ((F015.mono (fun a h => Or.inl h)).trans (F20.mono (fun a h => Or.inr (Or.inl h)))).trans (F24.mono (fun a h => Or.inr (Or.inr h)))
  have F15A : FR (fun a => a = ad 3 ∨ a = ad 0) σ15 σ24 := (F20.mono (fun a h => Or.inl h)).trans (F24.mono (fun a h => Or.inr h))
  have noA : ∀ i, i < 20 → ¬ VW (i + 1) → i ≠ 3 → i ≠ 0 → ¬ (RP VW own (lo Γ + hc σ) (ad i) ∨ ad i = ad 3 ∨ ad i = ad 0) := fun i hi h h3 h0 z => by
    rcases z with z | z | z
    · exact O.no hi h z
    · exact O.ne hi (by omega) h3 z
    · exact O.ne hi (by omega) h0 z
  obtain ⟨t1, t2, t3, t4, t5⟩ := V15.sh
  have nsm : us' ≠ me' ∧ us' ≠ pl' ∧ me' ≠ pl' := ⟨V15.1.2.2.2.2.2.2.2.2.2.2.2.1, V15.1.2.2.2.2.2.2.2.2.2.2.2.2.1, V15.1.2.2.2.2.2.2.2.2.2.2.2.2.2.1⟩
  have kuk : us' ≠ ke' ∧ me' ≠ ke' ∧ pl' ≠ ke' := ⟨hs_ne t2 t1 (show (22 : Nat) ≠ 23 by decide), hs_ne t3 t1 (show (22 : Nat) ≠ 23 by decide), hs_ne t4 t1 (show (22 : Nat) ≠ 23 by decide)⟩
  generalize hown : up (up (up (up own us' 21) me' 22) pl' 23) ke' 24 = own'
  have w1 : own' ke' = 24 := by rw [← hown, up_same]
  have w2 : own' pl' = 23 := by rw [← hown, up_ne _ _ kuk.2.2, up_same]
  have w3 : own' me' = 22 := by rw [← hown, up_ne _ _ kuk.2.1, up_ne _ _ nsm.2.2, up_same]
  have w4 : own' us' = 21 := by rw [← hown, up_ne _ _ kuk.1, up_ne _ _ nsm.2.1, up_ne _ _ nsm.1, up_same]
  have ho1 : ∀ a, a < lo Γ + hc σ → own' a = own a := by
    intro a ha
    have ee : ∀ x x' r, own x = r → (x' = x ∨ lo Γ + hc σ ≤ x') → a = x' → own a = r := fun x x' r h1 h2 h3 => by
      rcases h2 with z | z
      · rw [h3, z]; exact h1
      · omega
    by_cases z1 : a = ke'
    · rw [ee ke ke' 24 o4 oke z1, z1]; exact w1
    · by_cases z2 : a = pl'
      · rw [ee pl pl' 23 o3 opl z2, z2]; exact w2
      · by_cases z3 : a = me'
        · rw [ee me me' 22 o2 ome z3, z3]; exact w3
        · by_cases z4 : a = us'
          · rw [ee us us' 21 o1 ous z4, z4]; exact w4
          · rw [← hown, up_ne _ _ z1, up_ne _ _ z2, up_ne _ _ z3, up_ne _ _ z4]
  have ho : ∀ a, a < lo Γ + hc σ → own a ≠ 99 → own' a = own a := fun a ha _ => ho1 a ha
  have hc24 : hc σ24 = hc σ15 := by rw [e24, e20]; rfl
  have hv24 : hv σ24 = hv σ15 := by rw [e24, e20]; rfl
  have hle : lo Γ + hc σ ≤ lo Γ + hc σ24 := Nat.add_le_add_left FA.1 _
  have okk := okf_t.mp a2
  have okS' : ∀ g, g ≠ k → okv (stR S k) g = okv S g := by
    intro g hg
    show okf (sN S) (up (sR S) k true) g = okf (sN S) (sR S) g
    unfold okf
    rw [up_ne _ _ hg]
  have okn : okv (stR S k) k = false := by
    show okf (sN S) (up (sR S) k true) k = false
    unfold okf
    rw [up_same, Bool.not_true, Bool.and_false]
  have NT15 := V15.2.2.1
  have rcU : ctp (fun f => sR (stR S k) f = true) 200 = ctp (fun f => sR S f = true) 200 + 1 := by
    have up1 := ctp_upd (P := fun f => sR S f = true) (Q := fun f => sR (stR S k) f = true) (n := 200) (a := k) a3 (fun g _ hg => by
      show sR S g = true ↔ up (sR S) k true g = true
      rw [up_ne _ _ hg])
    have e1 : bd (sR S k = true) = false := bd_false.mpr (by rw [okk.2]; decide)
    have e2 : bd (sR (stR S k) k = true) = true := bd_true.mpr (by show up (sR S) k true k = true; rw [up_same])
    rw [e1, e2, if_neg (by decide), if_pos rfl] at up1
    omega
  have cntE : ∀ i, 2 ≤ i → i < nx' → cnt' i = ctp (fun f => okv (stR S k) f = true ∧ NP (sF (stR S k) f) (den' i)) 200 := by
    intro i h2 hi
    have up1 := ctp_upd (P := fun f => okv S f = true ∧ NP (sF S f) (den' i)) (Q := fun f => okv (stR S k) f = true ∧ NP (sF (stR S k) f) (den' i)) (n := 200) (a := k) a3 (fun g _ hg => by rw [okS' g hg]; exact Iff.rfl)
    have e2 : bd (okv (stR S k) k = true ∧ NP (sF (stR S k) k) (den' i)) = false := bd_false.mpr (fun z => by rw [okn] at z; exact absurd z.1 (by decide))
    have e1 : bd (okv S k = true ∧ NP (sF S k) (den' i)) = bd (NP (sF S k) (den' i)) := bd_congr ⟨fun z => z.2, fun z => ⟨a2, z⟩⟩
    rw [e2, e1, if_neg (show ¬ false = true by decide), Nat.add_zero] at up1
    rw [Cn i h2 hi]
    have e : ∀ (b : Bool) (k : Nat), cntv false k b = k - (if b = true then 1 else 0) := fun b k => by cases b <;> rfl
    rw [e]
    have c0 : cnt i = ctp (fun f => okv S f = true ∧ NP (sF S f) (den' i)) 200 := by
      rcases Nat.lt_or_ge i nx with z | z
      · rw [y1 i h2 z, (KD i z).2]
      · rw [V.2.2.2.2.2.1 i z, ctp_none]
        intro g _ hg
        obtain ⟨j, j2, jn, je⟩ := y5 g _ hg.1 hg.2
        have := NT15.2.2.2.1 j i (by omega) hi (by rw [(KD j jn).2]; exact je)
        omega
    rw [c0]
    omega
  have n03 : ad 0 ≠ ad 3 := O.ne (by omega) (by omega) (by omega)
  refine ⟨?_, own', c', w, ⟨O.to ho hle, ?_, ?_, x3.fr FA (noA 10 (by omega) (by unfold VW; omega) (by omega) (by omega)), x4.fr FA (noA 15 (by omega) (by unfold VW; omega) (by omega) (by omega)) (noA 16 (by omega) (by unfold VW; omega) (by omega) (by omega)) (noA 17 (by omega) (by unfold VW; omega) (by omega) (by omega)) (noA 18 (by omega) (by unfold VW; omega) (by omega) (by omega)), x5.fr FA (noA 13 (by omega) (by unfold VW; omega) (by omega) (by omega)) (noA 14 (by omega) (by unfold VW; omega) (by omega) (by omega)) ho hb, fun g hg => ?_, ?_, ?_, ?_⟩, ho1, ?_, by omega, by omega, cc⟩
  · rw [g24, up_same]; rfl
  · have a15' : C1 σ15 ad := x1.fr F015 (O.no (by omega) (by unfold VW; omega)) (O.no (by omega) (by unfold VW; omega))
    have a20 := a15'.fr F20 n03 (O.ne (by omega) (by omega) (by omega))
    rw [e24]; exact a20
  · have n1 := noA 1 (by omega) (by unfold VW; omega) (by omega) (by omega)
    have n2 := noA 2 (by omega) (by unfold VW; omega) (by omega) (by omega)
    have n19 := noA 19 (by omega) (by unfold VW; omega) (by omega) (by omega)
    obtain ⟨z1, z2, z3, z4, z5, z6, z7, z8, z9⟩ := x2
    unfold C2
    rw [g24, FA.gi n1, FA.gi n2, FA.gi n19]
    exact ⟨z1, z2, z3, z4, rfl, z6, z7, z8, z9⟩
  · have gf : gr σ24 (ad 3) = up (gr σ (ad 3)) k none := by
      rw [F24.gr (a := ad 3) (fun z => n03 z.symm), e20]
      show up (gr σ15) (ad 3) (up (gr σ15 (ad 3)) k none) (ad 3) = _
      rw [up_same, F015.gr (O.no (by omega) (by unfold VW; omega))]
    by_cases e : g = k
    · subst e
      exact ⟨fun _ => by rw [gf, up_same], fun z => by rw [okn] at z; exact absurd z (by decide)⟩
    · refine ⟨fun z => ?_, fun z => ?_⟩
      · rw [gf, up_ne _ _ e]
        exact (x6 g hg).1 (by rw [← okS' g e]; exact z)
      · refine ((x6 g hg).2 (by rw [← okS' g e]; exact z)).fr2 FA (by rw [gf, up_ne _ _ e]) (fun a ha h z => ?_) ho hle
        rcases z with z | z | z
        · exact RP_no (W := VW) rfl ha (by unfold VW; omega) z
        · rw [z, r25] at h; omega
        · rw [z, (O 0 (by omega)).1] at h; omega
  · refine ⟨ke', us', me', pl', nx', K', den', fun i => if i < 2 then 0 else cnt' i, v + 1, ?_, ⟨w4, w3, w2, w1⟩, fun i h2 hi => ?_, fun i => ?_, ?_, ?_, fun g h hg hh => ?_⟩
    · refine (V15.fr F15A ?_ ?_ ?_ ?_ ?_).cnt (fun i h2 _ => if_neg (by omega)) (fun i hi => ?_)
      · rintro (z | z)
        · exact O.ne (by omega) (by omega) (by omega) z
        · exact O.ne (by omega) (by omega) (by omega) z
      · rintro (z | z)
        · exact hs_ne t1 (F015.gh x1.2.2.2.2.2.2.2.2.2.2.2.2.2.2.1) (show (23 : Nat) ≠ 25 by decide) z
        · exact hs_ne t1 (F015.gh R.x0) (show (23 : Nat) ≠ 6 by decide) z
      · rintro (z | z)
        · exact hs_ne t2 (F015.gh x1.2.2.2.2.2.2.2.2.2.2.2.2.2.2.1) (show (22 : Nat) ≠ 25 by decide) z
        · exact hs_ne t2 (F015.gh R.x0) (show (22 : Nat) ≠ 6 by decide) z
      · rintro (z | z)
        · exact hs_ne t3 (F015.gh x1.2.2.2.2.2.2.2.2.2.2.2.2.2.2.1) (show (22 : Nat) ≠ 25 by decide) z
        · exact hs_ne t3 (F015.gh R.x0) (show (22 : Nat) ≠ 6 by decide) z
      · rintro (z | z)
        · exact hs_ne t4 (F015.gh x1.2.2.2.2.2.2.2.2.2.2.2.2.2.2.1) (show (22 : Nat) ≠ 25 by decide) z
        · exact hs_ne t4 (F015.gh R.x0) (show (22 : Nat) ≠ 6 by decide) z
      · show (if i < 2 then 0 else cnt' i) = 0
        rw [if_neg (by omega)]
        exact V15.2.2.2.2.2.1 i hi
    · show (if i < 2 then 0 else cnt' i) = _
      rw [if_neg (by omega)]
      exact cntE i h2 hi
    · show (if i < 2 then 0 else cnt' i) ≤ 200
      split
      · omega
      · rcases Nat.lt_or_ge i nx' with z | z
        · rw [cntE i (by omega) z]; exact ctp_le _ _
        · rw [V15.2.2.2.2.2.1 i z]; omega
    · show v + 1 ≤ sN S + ctp (fun f => sR (stR S k) f = true) 200
      omega
    · omega
    · by_cases e : g = k
      · rw [e, okn] at hg; exact absurd hg (by decide)
      · rw [okS' g e] at hg
        obtain ⟨i, i2, i3, i4⟩ := y5 g h hg hh
        exact ⟨i, i2, by omega, by rw [(KD i i3).2]; exact i4⟩
  · unfold nnr
    rw [FA.gr (noA 14 (by omega) (by unfold VW; omega) (by omega) (by omega))]
    exact x8
  · obtain ⟨z1, z2, z3, z4, z5, z6, z7, z8⟩ := x9
    refine ⟨z1, z2, z3, z4, fun i hi => ?_, fun g hg => ?_, z7, z8⟩
    · show up (sR S) k true i = false
      have hi : sN S ≤ i := hi
      rw [up_ne _ _ (by omega)]; exact z5 i hi
    · by_cases e : g = k
      · rw [e, okn] at hg; exact absurd hg (by decide)
      · rw [okS' g e] at hg
        exact z6 g hg
  · refine FA.mono (fun a ha => ?_)
    rcases ha with z | z | z
    · rcases z with z | z
      · exact Or.inl (by unfold VW at z; unfold CW; omega)
      · exact Or.inr z
    · exact Or.inl (by rw [z, r25]; unfold CW; omega)
    · exact Or.inl (by rw [z, (O 0 (by omega)).1]; unfold CW; omega)
end RL

