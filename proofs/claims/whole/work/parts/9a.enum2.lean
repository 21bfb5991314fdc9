/-! ROWS of FamilyStore: the cheapest sets kept. -/
section EN2
variable {Γ : Gm} {d : Nat} {σ : AH} {own ad : Nat → Nat} {S : StT} {c w : Nat}
/-- fields, arrays of ints, the two arrays of work -/
def IE (ad : Nat → Nat) (a : Nat) : Prop := IN ad a ∨ a = ad 4 ∨ a = ad 5
theorem IE.cw {a b : Nat} (O : OWc own ad b) (h : IE ad a) : CW (own a) := by
  unfold CW
  rcases h with (z | z | z | z) | z | z
  · rw [z, (O 0 (by omega)).1]; omega
  · rw [z, (O 1 (by omega)).1]; omega
  · rw [z, (O 2 (by omega)).1]; omega
  · rw [z, (O 19 (by omega)).1]; omega
  · rw [z, (O 4 (by omega)).1]; omega
  · rw [z, (O 5 (by omega)).1]; omega
theorem RepC.scr5 {f : Nat → Int32} (R : RepC Γ σ own ad S c w) (W : WF Γ σ) : RepC Γ (rowI σ (ad 5) f) own ad S c w :=
  R.keep W (W := SW) (FR.rowI _ _ (Or.inl (by rw [(R.1 5 (by omega)).1]; unfold SW; omega))) (fun r h => Or.inl h) (fun _ _ _ => rfl)
theorem IN.no (O : OWc own ad (lo Γ + hc σ)) {i : Nat} (hi : i < 20) (h0 : i ≠ 0) (h1 : i ≠ 1) (h2 : i ≠ 2) (h3 : i ≠ 19) : ¬ IN ad (ad i) := by
  rintro (z | z | z | z)
  · exact O.ne hi (by omega) h0 z
  · exact O.ne hi (by omega) h1 z
  · exact O.ne hi (by omega) h2 z
  · exact O.ne hi (by omega) h3 z
/-- length zero, or one more kept -/
theorem RepC.kept0 {l : Nat → Int32} (R : RepC Γ σ own ad S c w) (W : WF Γ σ) : RepC Γ (setI σ (ad 0) 16 0) own ad (stH S l 0) c w ∧ FR (IN ad) σ (setI σ (ad 0) 16 0) := by
  have F : FR (IN ad) σ (setI σ (ad 0) 16 0) := FR.setI σ _ _ (Or.inl rfl)
  have R' := R
  obtain ⟨O, x1, ⟨y1, y2, y3, y4, y5, y6, y7, y8, y9⟩, x3, x4, x5, x6, x7, x8, ⟨z1, z2, z3, z4, z5, z6, z7, z8⟩⟩ := R'
  have ge : ∀ i, i < 20 → i ≠ 0 → gi (setI σ (ad 0) 16 0) (ad i) = gi σ (ad i) := fun i hi h => up_ne _ _ (O.ne hi (by omega) h)
  have g0 : gi (setI σ (ad 0) 16 0) (ad 0) = up (gi σ (ad 0)) 16 0 := up_same _ _ _
  refine ⟨R.ints W F rfl rfl ?_ ?_ rfl rfl rfl rfl, F⟩
  · unfold C2
    rw [g0, ge 1 (by omega) (by omega), ge 2 (by omega) (by omega), ge 19 (by omega) (by omega)]
    exact ⟨(up_ne _ _ (by decide)).trans y1, (up_ne _ _ (by decide)).trans y2, (up_ne _ _ (by decide)).trans y3, (up_ne _ _ (by decide)).trans y4, (up_ne _ _ (by decide)).trans y5, up_same _ _ _, y7, y8, fun i hi => absurd hi (Nat.not_lt_zero i)⟩
  · exact ⟨z1, z2, z3, by show 0 ≤ 300; omega, z5, z6, z7, z8⟩
theorem RepC.kept {l : Nat → Int32} {i : Nat} (R : RepC Γ σ own ad (stH S l i) c w) (W : WF Γ σ) (hi : i < 300) : RepC Γ (setI (setI σ (ad 19) i (l i)) (ad 0) 16 (nI (i + 1))) own ad (stH S l (i + 1)) c w ∧ FR (IN ad) σ (setI (setI σ (ad 19) i (l i)) (ad 0) 16 (nI (i + 1))) := by
  have F : FR (IN ad) σ (setI (setI σ (ad 19) i (l i)) (ad 0) 16 (nI (i + 1))) := (FR.setI σ _ _ (Or.inr (Or.inr (Or.inr rfl)))).trans (FR.setI _ _ _ (Or.inl rfl))
  have R' := R
  obtain ⟨O, x1, ⟨y1, y2, y3, y4, y5, y6, y7, y8, y9⟩, x3, x4, x5, x6, x7, x8, ⟨z1, z2, z3, z4, z5, z6, z7, z8⟩⟩ := R'
  have n0 : ad 0 ≠ ad 19 := O.ne (by omega) (by omega) (by omega)
  have ge : ∀ j, j < 20 → j ≠ 0 → j ≠ 19 → gi (setI (setI σ (ad 19) i (l i)) (ad 0) 16 (nI (i + 1))) (ad j) = gi σ (ad j) := fun j hj h h2 => (up_ne _ _ (O.ne hj (by omega) h)).trans (up_ne _ _ (O.ne hj (by omega) h2))
  have g0 : gi (setI (setI σ (ad 19) i (l i)) (ad 0) 16 (nI (i + 1))) (ad 0) = up (gi σ (ad 0)) 16 (nI (i + 1)) := (up_same _ _ _).trans (by rw [show gi (setI σ (ad 19) i (l i)) (ad 0) = gi σ (ad 0) from up_ne _ _ n0])
  have g9 : gi (setI (setI σ (ad 19) i (l i)) (ad 0) 16 (nI (i + 1))) (ad 19) = up (gi σ (ad 19)) i (l i) := (up_ne _ _ n0.symm).trans (up_same _ _ _)
  refine ⟨R.ints W F rfl rfl ?_ ?_ rfl rfl rfl rfl, F⟩
  · unfold C2
    rw [g0, ge 1 (by omega) (by omega) (by omega), ge 2 (by omega) (by omega) (by omega), g9]
    refine ⟨(up_ne _ _ (by decide)).trans y1, (up_ne _ _ (by decide)).trans y2, (up_ne _ _ (by decide)).trans y3, (up_ne _ _ (by decide)).trans y4, (up_ne _ _ (by decide)).trans y5, up_same _ _ _, y7, y8, fun j hj => ?_⟩
    have hj : j < i + 1 := hj
    show up (gi σ (ad 19)) i (l i) j = l j
    by_cases e : j = i
    · rw [e, up_same]
    · rw [up_ne _ _ e]; exact y9 j (by show j < i; omega)
  · exact ⟨z1, z2, z3, by show i + 1 ≤ 300; omega, z5, z6, z7, z8⟩
theorem keepCheapest_R {G : Nat → Prop} {r l : Nat} (R : RepC Γ σ own ad S c w) (W : WF Γ σ) (hr : r ≤ 4096) (hl : l ≤ 300) (hlr : l ≤ r) (inj : injV (gi σ (ad 5)) r) (hv' : ∀ v, hasV (gi σ (ad 5)) r v ↔ ∃ x, x < 4096 ∧ G x ∧ v = rvI (sK S) x) (hd : 3 ≤ d) : RV Γ d MX8_keepCheapest [.ref (ad 0), .int (nI r), .int (nI l)] σ (fun σ' => RepC Γ σ' own ad (stH S (enL G (kap (sK S))) l) c w ∧ FR (IE ad) σ σ' ∧ hc σ' = hc σ ∧ hv σ' = hv σ) := by
  have Al := R.2.1.alg
  have x1 := R.2.1
  have O := R.1
  have kb : KB (sK S) := R.lt.2.2.2.2.2.2.1
  have n5 : ¬ IN ad (ad 5) := IN.no O (by omega) (by omega) (by omega) (by omega) (by omega)
  have h5 : hs σ (ad 5) = some (22, 4096) := Al.2.2.2.2.2.2.1
  refine eX8_keepCheapest ⟨R.x0, ad 5, x1.2.2.2.2.2.1, CV.of (d2 := 1) (order_R h5 (by omega) hr (by omega)) (by omega) (fun σ4 W4 q => ?_)⟩
  obtain ⟨f4, e4, s4, p4⟩ := q
  have R4 : RepC Γ σ4 own ad S c w := by rw [e4]; exact R.scr5 W
  have F4 : FR (IE ad) σ σ4 := by rw [e4]; exact FR.rowI _ _ (Or.inr (Or.inr rfl))
  have c4 : hc σ4 = hc σ := by rw [e4]; rfl
  have v4 : hv σ4 = hv σ := by rw [e4]; rfl
  have g4 : gi σ4 (ad 5) = f4 := by rw [e4]; exact up_same _ _ _
  refine ⟨R4.x0, fun σ7 e7 => ?_⟩
  obtain ⟨R7, F7⟩ := R4.kept0 (l := enL G (kap (sK S))) W4
  rw [← e7] at R7 F7
  have main : ∀ i, i ≤ l → ∀ τ f, WF Γ τ → RepC Γ τ own ad (stH S (enL G (kap (sK S))) i) c w → FR (IE ad) σ τ → hc τ = hc σ → hv τ = hv σ → gi τ (ad 5) = f → hpf 0 (r - i) f → injV f (r - i) → (∀ v, hasV f (r - i) v ↔ ∃ x, x < 4096 ∧ G x ∧ i ≤ rkG G (kap (sK S)) x ∧ v = rvI (sK S) x) → EV Γ MX8_keepCheapest d 15 [some (.ref (ad 0)), some (.int (nI r)), some (.int (nI l)), some (.int (nI i))] [] τ (fun oc σ' => oc = .inl none ∧ RepC Γ σ' own ad (stH S (enL G (kap (sK S))) l) c w ∧ FR (IE ad) σ σ' ∧ hc σ' = hc σ ∧ hv σ' = hv σ) := by
    refine upto l ?_ (fun i hi ih => ?_)
    · intro τ f Wt Rt Ft c1 v1 g5 hp ij hh
      exact gX8_keepCheapest_15 ⟨fun _ => ⟨rfl, Rt, Ft, c1, v1⟩, fun y => absurd (nI_le (Nat.le_refl _) (by omega)) y⟩
    · intro τ f Wt Rt Ft c1 v1 g5 hp ij hh
      have xt := Rt.2.1
      obtain ⟨n, hn⟩ : ∃ n, r - i = n + 1 := ⟨r - i - 1, by omega⟩
      have e1 : nI r - nI i = nI (n + 1) := by rw [show nI r - nI i = nI (r - i) from pk_sub (by omega), hn]
      refine gX8_keepCheapest_15 ⟨fun y => absurd ((nI_leI (by omega) (by omega)).mp y) (by omega), fun _ => ⟨fun y => absurd ((nI_leI (a := 300) (by omega) (by omega)).mp y) (by omega), fun _ => ⟨Rt.x0, ad 19, xt.2.2.2.2.2.2.2.2.2.2.2.1, ad 5, xt.2.2.2.2.2.1, ?_⟩⟩⟩
      rw [hn] at hp ij hh
      rw [e1]
      refine CI.of (d2 := 1) (takeLeast_R (N := 4096) (n := n) xt.alg.2.2.2.2.2.2.1 (by omega) (by omega) (by omega) (by rw [g5]; exact hp) (by rw [g5]; exact ij)) (by omega) (fun r9 σ8 W8 q => ?_)
      rw [g5] at q
      obtain ⟨q1, f8, e8, p8, i8, hh8⟩ := q
      have R8 : RepC Γ σ8 own ad (stH S (enL G (kap (sK S))) i) c w := by rw [e8]; exact Rt.scr5 Wt
      obtain ⟨x, x2, x3, x4, x5⟩ := (hh (f 0)).mp ⟨0, by omega, rfl⟩
      have least : rkG G (kap (sK S)) x = i := by
        refine rk_least kap_inj x4 (fun y hy gy hiy => ?_)
        obtain ⟨j, j1, j2⟩ := (hh (rvI (sK S) y)).mpr ⟨y, hy, gy, hiy, rfl⟩
        have := heap_least hp j j1
        rw [x5, j2] at this
        exact (rvI_le kb x2 hy).mp this
      have ev : r9 &&& 4095 = enL G (kap (sK S)) i := by
        rw [q1, x5, rvI_and kb x2, enL_eq kap_inj x2 x3 least]
      refine ⟨300, R8.2.1.2.2.2.2.2.2.2.2.2.2.2.2.2.2.2.1, i, IXn (by omega) (by omega), fun σ14 e14 => ⟨by rw [e14]; exact R8.x0, fun σ18 e18 => ?_⟩⟩
      have n0 : ad 0 ≠ ad 19 := O.ne (by omega) (by omega) (by omega)
      have g16 : gi σ14 (ad 0) 16 = nI i := by rw [e14]; exact (congrFun (up_ne _ _ n0) _).trans R8.2.2.1.2.2.2.2.2.1
      rw [g16, nI_1] at e18
      obtain ⟨R18, F18⟩ := R8.kept W8 (by omega)
      rw [ev] at e14
      rw [← e14, ← e18] at R18 F18
      have W14 : WF Γ σ14 := by rw [e14]; exact W8.upd R8.2.1.2.2.2.2.2.2.2.2.2.2.2.2.2.2.2.1 (by decide) rfl rfl (fun _ _ => rfl)
      have W18 : WF Γ σ18 := by rw [e18]; exact W14.upd (k := 6) (n := 17) (by rw [e14]; exact R8.x0) (by decide) rfl rfl (fun _ _ => rfl)
      rw [nI_1]
      refine ih σ18 f8 W18 R18 ((Ft.trans (by rw [e8]; exact FR.rowI _ _ (Or.inr (Or.inr rfl)))).trans (F18.mono (fun a h => Or.inl h))) (by rw [e18, e14, e8]; exact c1) (by rw [e18, e14, e8]; exact v1) (by rw [F18.gi n5, e8]; exact up_same _ _ _) (by rw [show r - (i + 1) = n by omega]; exact p8) (by rw [show r - (i + 1) = n by omega]; exact i8) (fun v => ?_)
      rw [show r - (i + 1) = n by omega, hh8 v, hh v]
      constructor
      · rintro ⟨⟨y, y1, y2, y3, y4⟩, y5⟩
        refine ⟨y, y1, y2, ?_, y4⟩
        rcases Nat.lt_or_ge i (rkG G (kap (sK S)) y) with t | t
        · exact t
        · have : y = x := rk_inj (κ := kap (sK S)) kap_inj y1 x2 y2 x3 (by omega)
          rw [y4, this, ← x5] at y5
          exact absurd rfl y5
      · rintro ⟨y, y1, y2, y3, y4⟩
        refine ⟨⟨y, y1, y2, by omega, y4⟩, fun t => ?_⟩
        rw [y4, x5] at t
        have := rvI_inj kb y1 x2 t
        rw [this, least] at y3
        omega
  refine main 0 (Nat.zero_le _) σ7 f4 (by rw [e7]; exact W4.upd R4.x0 (by decide) rfl rfl (fun _ _ => rfl)) R7 (F4.trans (F7.mono (fun a h => Or.inl h))) (by rw [e7]; exact c4) (by rw [e7]; exact v4) (by rw [F7.gi n5]; exact g4) p4 (s4.2.1 inj) (fun v => ?_)
  rw [show r - 0 = r from rfl, ← s4.1 v, hv' v]
  exact ⟨fun ⟨x, h1, h2, h3⟩ => ⟨x, h1, h2, Nat.zero_le _, h3⟩, fun ⟨x, h1, h2, _, h3⟩ => ⟨x, h1, h2, h3⟩⟩
theorem enumerate_R {f b l : Int32} (R : RepC Γ σ own ad S c w) (hd : 9 ≤ d) : CLM Γ d MX8_enumerate [.ref (ad 0), .int f, .int b, .int l] σ own ad c w [IOB, NSE, IAE] (aEnum S f b l) := by
  refine RUN.wf (fun W => eX8_enumerate ⟨R.x0, fo_call R (fun e => ?_) (fun e => ?_) (fun fo A => ?_) (by omega)⟩)
  · have hA : aEnum S f b l = (1, 0, S) := if_pos e
    rw [hA]; exact ⟨rfl, StepC.thr R W⟩
  · have hA : aEnum S f b l = (2, 0, S) := (if_neg (by omega)).trans (if_pos e)
    rw [hA]; exact ⟨rfl, StepC.thr R W⟩
  obtain ⟨ra, ka, a0, a1, a2, a3, a4, a5, a6, a7, a8, a9, a10, a11, a12, a13, a14, a15, a16⟩ := A
  have bad : (l < 1 ∨ ¬ l ≤ 300) → EV Γ MX8_enumerate d 19 [none, none, none, none, none, none, none, none] [] σ (fun oc σ' => ansO [IOB, NSE, IAE] (aEnum S f b l) oc ∧ StepC Γ σ own ad c w (aEnum S f b l).2.2 σ') := by
    intro h
    have hA : aEnum S f b l = (3, 0, S) := (if_neg (by omega)).trans ((if_neg (by omega)).trans (if_pos h))
    rw [hA]; exact gX8_enumerate_19 ⟨by omega, rfl, StepC.thr R W⟩
  refine ⟨fun z => bad (Or.inl z), fun z1 => ⟨fun z2 => ?_, fun z => bad (Or.inr z)⟩⟩
  have hA : aEnum S f b l = (0, nI (min (ixF l) (ctp (cndG (sK S) b (sF S (ixF f))) 4096)), stH S (enL (cndG (sK S) b (sF S (ixF f))) (kap (sK S))) (min (ixF l) (ctp (cndG (sK S) b (sF S (ixF f))) 4096))) := (if_neg (by omega)).trans ((if_neg (by omega)).trans (if_neg (fun y => y.elim z1 (fun y => y z2))))
  rw [hA]
  have l0 : ¬ l < 0 := fun t => z1 (by
    have t := Int32.lt_iff_toInt_lt.mp t
    have q0 : (0 : Int32).toInt = 0 := by decide
    have q1 : (1 : Int32).toInt = 1 := by decide
    exact Int32.lt_iff_toInt_lt.mpr (by omega))
  obtain ⟨L, hL, rfl⟩ := nI_of l0
  have eL : ixF (nI L) = L := pk_tn (by omega)
  rw [eL]
  have L3 : L ≤ 300 := (nI_leI (b := 300) (by omega) (by omega)).mp z2
  have Al := R.2.1.alg
  have x1 := R.2.1
  have O := R.1
  have kb : KB (sK S) := R.lt.2.2.2.2.2.2.1
  generalize hF : sF S (ixF f) = F at *
  generalize hG : cndG (sK S) b F = G
  refine ⟨a5, ra, a6, R.x0, ad 4, x1.2.2.2.2.1, list_call R a7 (fun g hl => ?_) (by omega)⟩
  have F1 : FR (IE ad) σ (rowI σ (ad 4) g) := FR.rowI _ _ (Or.inr (Or.inl rfl))
  have W1 : WF Γ (rowI σ (ad 4) g) := W.upd Al.2.2.2.2.2.1 (by decide) rfl rfl (fun _ _ => rfl)
  have R1 : RepC Γ (rowI σ (ad 4) g) own ad S c w := R.keep W (fr_first R (f := g) rfl) (fun r h => Or.inl h) (fun _ _ _ => rfl)
  have hLs : LstF g F := by
    intro i hi
    rw [← a8] at hi
    obtain ⟨x, x1, x2, x3, x4, x5⟩ := lst_step hl hi
    rw [a8] at x2 x4 x5
    exact ⟨x, x1, x2, x3, x4, x5⟩
  have h4 : gi (rowI σ (ad 4) g) (ad 4) = g := up_same _ _ _
  rw [a8]
  have le := cntF_le F
  have n45 : ad 4 ≠ ad 5 := O.ne (by omega) (by omega) (by omega)
  have GF : ∀ x, G x → F x = true := fun x h => by rw [← hG] at h; exact h.1
  have skipc : ∀ {m m' : Nat}, fb_ct F m = fb_ct F m' → ctp G m = ctp G m' := by
    intro m m' e
    have aux : ∀ a b, a ≤ b → fb_ct F a = fb_ct F b → ctp G a = ctp G b := by
      intro a b hab e
      have z := ct_same hab e
      obtain ⟨k, rfl⟩ : ∃ k, b = a + k := ⟨b - a, by omega⟩
      rw [ctp_split, ctp_none (P := fun k => G (a + k)) (fun y hy hg => by
        have := z (a + y) (by omega) (by omega)
        rw [GF _ hg] at this; exact absurd this (by decide))]
      omega
    rcases Nat.le_total m m' with q | q
    · exact aux _ _ q e
    · exact (aux _ _ q e.symm).symm
  have skipx : ∀ {m m' : Nat}, fb_ct F m = fb_ct F m' → ∀ v, (∃ x, x < m ∧ G x ∧ v = rvI (sK S) x) → ∃ x, x < m' ∧ G x ∧ v = rvI (sK S) x := by
    rintro m m' e v ⟨x, h1, h2, h3⟩
    refine ⟨x, ?_, h2, h3⟩
    rcases Nat.lt_or_ge x m' with q | q
    · exact q
    · have := ct_same (F := F) (show m' ≤ m by omega) e.symm x q h1
      rw [GF _ h2] at this; exact absurd this (by decide)
  have cl := ctp_le G 4096
  have fin : ∀ τ f5, WF Γ τ → RepC Γ τ own ad S c w → FR (IE ad) σ τ → hc τ = hc σ → hv τ = hv σ → gi τ (ad 5) = f5 → injV f5 (ctp G 4096) → (∀ v, hasV f5 (ctp G 4096) v ↔ ∃ x, x < 4096 ∧ G x ∧ v = rvI (sK S) x) → EV Γ MX8_enumerate d 118 [some (.ref (ad 0)), none, none, some (.int (nI L)), none, none, some (.int (nI (ctp G 4096))), none] [] τ (fun oc σ' => ansO [IOB, NSE, IAE] (0, nI (min L (ctp G 4096)), stH S (enL G (kap (sK S))) (min L (ctp G 4096))) oc ∧ StepC Γ σ own ad c w (stH S (enL G (kap (sK S))) (min L (ctp G 4096))) σ') := by
    intro τ f5 Wt Rt Ft c1 v1 g5 ij hh
    have em : (if nI (ctp G 4096) < nI L then nI (ctp G 4096) else nI L) = nI (min L (ctp G 4096)) := by
      by_cases y : ctp G 4096 < L
      · rw [if_pos ((nI_ltI (by omega) (by omega)).mpr y), show min L (ctp G 4096) = ctp G 4096 by omega]
      · rw [if_neg (fun t => y ((nI_ltI (by omega) (by omega)).mp t)), show min L (ctp G 4096) = L by omega]
    refine gX8_enumerate_118 ⟨by omega, Rt.x0, ?_⟩
    rw [em]
    refine CV.of (d2 := 3) (keepCheapest_R Rt Wt cl (by omega) (by omega) (by rw [g5]; exact ij) (by rw [g5]; exact hh) (by omega)) (by omega) (fun σ2 W2 q => ?_)
    obtain ⟨R2, F2, c2, v2⟩ := q
    refine ⟨R2.x0, ?_, own, c, w, R2, fun _ _ => rfl, (Ft.trans F2).mono (fun a h => Or.inl (IE.cw O h)), by omega, by omega, Nat.le_refl _⟩
    rw [R2.2.2.1.2.2.2.2.2.1]; rfl
  have L0 : ∀ i, i ≤ cntF F → ∀ τ f5 r, WF Γ τ → RepC Γ τ own ad S c w → FR (IE ad) σ τ → hc τ = hc σ → hv τ = hv σ → gi τ (ad 4) = g → gi τ (ad 5) = f5 → injV f5 r → (∀ m, m ≤ 4096 → fb_ct F m = i → r = ctp G m ∧ ∀ v, hasV f5 r v ↔ ∃ x, x < m ∧ G x ∧ v = rvI (sK S) x) → EV Γ MX8_enumerate d 47 [some (.ref (ad 0)), none, some (.int b), some (.int (nI L)), none, some (.int (nI (cntF F))), some (.int (nI r)), some (.int (nI i))] [] τ (fun oc σ' => ansO [IOB, NSE, IAE] (0, nI (min L (ctp G 4096)), stH S (enL G (kap (sK S))) (min L (ctp G 4096))) oc ∧ StepC Γ σ own ad c w (stH S (enL G (kap (sK S))) (min L (ctp G 4096))) σ') := by
    refine upto _ ?_ (fun i hi ih => ?_)
    · intro τ f5 r Wt Rt Ft c1 v1 g4 g5 ij hh
      obtain ⟨e1, e2⟩ := hh 4096 (Nat.le_refl _) rfl
      subst e1
      exact gX8_enumerate_47 ⟨fun _ => fin τ f5 Wt Rt Ft c1 v1 g5 ij e2, fun y => absurd (nI_le (Nat.le_refl _) (by omega)) y⟩
    · intro τ f5 r Wt Rt Ft c1 v1 g4 g5 ij hh
      obtain ⟨x, q1, q2, q3, q4, q5⟩ := hLs i hi
      obtain ⟨e1, e2⟩ := hh x (by omega) q4
      have xt := Rt.2.1
      have CO := Rt.2.2.2.2.1
      have rx : r ≤ x := by rw [e1]; exact ctp_le _ _
      refine gX8_enumerate_47 ⟨fun y => absurd ((nI_leI (by omega) (by omega)).mp y) (by omega), fun _ => ⟨fun y => absurd ((c4096le (by omega)).mp y) (by omega), fun _ => ⟨Rt.x0, ad 15, xt.2.2.2.2.2.2.2.2.2.2.1, ad 4, xt.2.2.2.2.1, 4096, xt.alg.2.2.2.2.2.1, i, IXn (by omega) (by omega), CO.1, ?_⟩⟩⟩
      rw [g4, q3]
      refine CI.of (d2 := 0) (of_R CO q1) (by omega) (fun r1 σ1 _ t => ?_)
      obtain ⟨t1, rfl⟩ := t
      subst t1
      rw [nI_1]
      have gx : G x ↔ ¬ b < csum (sK S) 12 x := by
        rw [← hG]; exact ⟨fun h => h.2, fun h => ⟨q2, h⟩⟩
      have ctS : ctp G (x + 1) = ctp G x + (if bd (G x) = true then 1 else 0) := fb_ct_succ _ x
      refine ⟨fun y => ?_, fun y => ⟨fun t => absurd ((c4096le (by omega)).mp t) (by omega), fun _ => ⟨Rt.x0, ad 5, xt.2.2.2.2.2.1, ad 15, xt.2.2.2.2.2.2.2.2.2.2.1, ad 4, xt.2.2.2.2.1, 4096, xt.alg.2.2.2.2.2.1, i, IXn (by omega) (by omega), CO.1, ?_⟩⟩⟩
      · have ng : ¬ G x := fun t => gx.mp t y
        refine ih _ f5 r Wt Rt Ft c1 v1 g4 g5 ij (fun m hm e => ?_)
        rw [skipc (e.trans q5.symm), ctS, if_neg (by rw [bd_false.mpr ng]; decide)]
        refine ⟨e1, fun v => (e2 v).trans ⟨?_, ?_⟩⟩
        · rintro ⟨y, h1, h2, h3⟩
          exact skipx (q5.trans e.symm) v ⟨y, by omega, h2, h3⟩
        · intro h
          obtain ⟨y, h1, h2, h3⟩ := skipx (e.trans q5.symm) v h
          refine ⟨y, ?_, h2, h3⟩
          rcases Nat.lt_or_ge y x with t | t
          · exact t
          · rw [show y = x by omega] at h2; exact absurd h2 ng
      · have hgx : G x := gx.mpr y
        rw [g4, q3]
        refine CI.of (d2 := 1) (rank_R CO q1 (by omega)) (by omega) (fun r29 σ28 _ t => ?_)
        obtain ⟨t1, rfl⟩ := t
        subst t1
        refine ⟨4096, xt.alg.2.2.2.2.2.2.1, r, IXn (by omega) (by omega), fun σ35 e35 => ?_⟩
        rw [nI_1]
        have e35' : σ35 = rowI σ28 (ad 5) (up f5 r (rvI (sK S) x)) := by rw [e35, ← g5]; rfl
        have W35 : WF Γ σ35 := by rw [e35']; exact Wt.upd xt.alg.2.2.2.2.2.2.1 (by decide) rfl rfl (fun _ _ => rfl)
        have new : ∀ j, j < r → f5 j ≠ rvI (sK S) x := by
          intro j hj t
          obtain ⟨y, h1, h2, h3⟩ := (e2 (f5 j)).mp ⟨j, hj, rfl⟩
          have := rvI_inj kb (by omega) q1 (h3.symm.trans t)
          omega
        refine ih σ35 (up f5 r (rvI (sK S) x)) (r + 1) W35 (by rw [e35']; exact Rt.scr5 Wt) (Ft.trans (by rw [e35']; exact FR.rowI _ _ (Or.inr (Or.inr rfl)))) (by rw [e35']; exact c1) (by rw [e35']; exact v1) (by rw [e35']; exact (up_ne _ _ n45).trans g4) (by rw [e35']; exact up_same _ _ _) ?_ (fun m hm e => ?_)
        · intro i1 j1 h1 h2 h3
          by_cases a : i1 = r
          · by_cases b : j1 = r
            · omega
            · rw [a, up_same, up_ne _ _ b] at h3
              exact absurd h3.symm (new j1 (by omega))
          · by_cases b : j1 = r
            · rw [b, up_same, up_ne _ _ a] at h3
              exact absurd h3 (new i1 (by omega))
            · rw [up_ne _ _ a, up_ne _ _ b] at h3
              exact ij i1 j1 (by omega) (by omega) h3
        · rw [skipc (e.trans q5.symm), ctS, if_pos (bd_true.mpr hgx), ← e1]
          refine ⟨rfl, fun v => ⟨?_, ?_⟩⟩
          · rintro ⟨j, h1, h2⟩
            refine skipx (q5.trans e.symm) v ?_
            by_cases a : j = r
            · rw [a, up_same] at h2
              exact ⟨x, by omega, hgx, h2.symm⟩
            · rw [up_ne _ _ a] at h2
              obtain ⟨y, y1, y2, y3⟩ := (e2 v).mp ⟨j, by omega, h2⟩
              exact ⟨y, by omega, y2, y3⟩
          · intro h
            obtain ⟨y, h1, h2, h3⟩ := skipx (e.trans q5.symm) v h
            by_cases a : y = x
            · exact ⟨r, by omega, by rw [up_same, h3, a]⟩
            · obtain ⟨j, j1, j2⟩ := (e2 v).mpr ⟨y, by omega, h2, h3⟩
              exact ⟨j, by omega, by rw [up_ne _ _ (by omega)]; exact j2⟩
  refine L0 0 (Nat.zero_le _) _ (gi σ (ad 5)) 0 W1 R1 F1 rfl rfl h4 (up_ne _ _ n45.symm) (fun i j h => absurd h (Nat.not_lt_zero i)) (fun m hm e => ?_)
  refine ⟨(skipc (m := 0) e.symm), fun v => ⟨fun ⟨j, h, _⟩ => absurd h (Nat.not_lt_zero j), fun h => ?_⟩⟩
  obtain ⟨y, y1, -⟩ := skipx (m' := 0) e v h
  exact absurd y1 (Nat.not_lt_zero y)
end EN2
