/-! THE LAW: its loop, its start. -/
section CAPS
variable {Γ : Gm} {σ : AH} {own ad mad : Nat → Nat} {S : StT} {c w : Nat}
/-- the class's tables stay small -/
theorem RepC.c18 (R : RepC Γ σ own ad S c w) : c ≤ 18 := by
  have hN := R.n.2
  obtain ⟨-, -, -, -, -, -, -, C7', -, -⟩ := R
  obtain ⟨ke, us, me, pl, nx, K, den, cnt, v, V, -, -, -, h1, h2, -⟩ := C7'
  obtain ⟨D, -, Vn, -⟩ := V
  obtain ⟨D0, D1, D2, D3, D4, D5, D6, D7, D8, D9, D10, n1, n2, n3, n4, n5, n6, D11, D12, D13, ⟨D14, D15⟩, D16, -⟩ := D
  have sz := Vn.size D12
  have hr := ctp_le (fun f => sR S f = true) 200
  rcases Nat.lt_or_ge 18 c with y | y
  · exfalso
    have p : 2 ^ 18 ≤ 2 ^ (c - 1) := Nat.pow_le_pow_right (by omega) (by omega)
    omega
  · exact y
theorem RepM.c17 (R : RepM Γ σ own mad S c) : c ≤ 17 := by
  obtain ⟨tp, lw, hg, sl, M, -⟩ := R.2.2.2.2.2.1
  exact M.2.2.2.2.2.2.2.2.2.2.2
end CAPS
/-- how the law ends -/
def QF (oc : Oc) (σ' : AH) : Prop := oc = .inl (some (.int 1)) ∧ hc σ' ≤ 603072 ∧ hv σ' ≤ 7198826
theorem six_lt {n i : Nat} (hn : n ≤ 3072) (hi : i ≤ 4096) (h : ¬ nI n - 6 < nI i) : i + 6 ≤ n := by
  rcases Nat.lt_or_ge n (i + 6) with y | y
  · exfalso
    apply h
    rw [Int32.lt_iff_toInt_lt, Int32.toInt_sub, nI_toInt (by omega), nI_toInt (by omega)]
    have e6 : (6 : Int32).toInt = 6 := by decide
    rw [e6, Int.bmod_eq_of_le (by omega) (by omega)]
    omega
  · exact y
section LOOP
variable {Γ : Gm} {σ : AH} {ad mad : Nat → Nat} {sc n oa od : Nat} {g : Nat → Int32} {S S2 : StT} {X Y X' Y' : Nat}
theorem LT.more (h : LT Γ ad mad sc n oa od g S S2 X Y σ) (h1 : X ≤ X') (h2 : Y ≤ Y') : LT Γ ad mad sc n oa od g S S2 X' Y' σ := by
  obtain ⟨W, own, c, w, cm, R, M, hsc, hoa, hod, B1, B2⟩ := h
  exact ⟨W, own, c, w, cm, R, M, hsc, hoa, hod, by omega, by omega⟩
theorem LT.fin {kk : Nat} (h : LT Γ ad mad sc n oa od g S S2 (100 + 8 * kk) (50000 + 300 * kk) σ) (hk : kk ≤ 512) : hc σ ≤ 603072 ∧ hv σ ≤ 7198826 := by
  obtain ⟨W, own, c, w, cm, R, M, hsc, hoa, hod, B1, B2⟩ := h
  have c1 := R.c18
  have c2 := M.c17
  have p1 : 2 ^ (c + 1) ≤ 2 ^ 19 := Nat.pow_le_pow_right (by omega) (by omega)
  have p2 : 2 ^ (cm + 1) ≤ 2 ^ 18 := Nat.pow_le_pow_right (by omega) (by omega)
  exact ⟨by omega, by omega⟩
theorem law_loop (hn : n ≤ 3072) : ∀ (f kk : Nat) (σ : AH) (S : StT), n + 6 ≤ 6 * kk + f → kk ≤ 512 → LT Γ ad mad sc n oa od g S S (100 + 8 * kk) (50000 + 300 * kk) σ → EV Γ ML_law 200 28 [some (.ref sc), some (.ref (ad 0)), some (.ref (mad 0)), some (.ref oa), some (.ref od), some (.int (nI (6 * kk))), none, none, none] [] σ QF := by
  intro f
  induction f with
  | zero =>
    intro kk σ S hf hk h
    exact gL_law_28 ⟨n, h.hsS, fun _ => ⟨rfl, h.fin hk⟩, fun y => absurd (six_lt hn (by omega) y) (by omega)⟩
  | succ f ih =>
    intro kk σ S hf hk h
    refine gL_law_28 ⟨n, h.hsS, fun _ => ⟨rfl, h.fin hk⟩, fun y => ?_⟩
    have hi := six_lt hn (by omega) y
    have nx : NXT Γ ad mad sc n oa od g (100 + 8 * kk) (50000 + 300 * kk) (6 * kk) QF := fun S' σ' h' => by
      refine gL_law_2703 ?_
      rw [show nI (6 * kk) + 6 = nI (6 * (kk + 1)) from nI_add (6 * kk) 6]
      exact ih (kk + 1) σ' S' (by omega) (by omega) (h'.more (by omega) (by omega))
    refine ⟨6 * kk, IXn (by omega) (by omega), ?_⟩
    exact ⟨fun _ => law_224 h hi hn nx, fun _ => law_328 h hi hn nx, fun _ => law_384 h hi hn nx, fun _ => law_428 h hi hn nx, fun _ => law_441 h hi hn nx, fun _ => law_497 h hi hn nx, fun _ => law_553 h hi hn nx, fun _ => law_609 h hi hn nx, fun _ => law_677 h hi hn nx, fun _ => law_733 h hi hn nx, fun _ => law_746 h hi hn nx, fun _ => law_759 h hi hn nx, fun _ => law_815 h hi hn nx, fun _ => law_883 h hi hn nx, fun _ => law_951 h hi hn nx, fun _ => law_1019 h hi hn nx, fun _ => law_1087 h hi hn nx, fun _ => law_1155 h hi hn nx, fun _ => law_1223 h hi hn nx, fun _ => law_1291 h hi hn nx, fun _ => law_1359 h hi hn nx, fun _ => law_1427 h hi hn nx, fun _ => law_1483 h hi hn nx, fun _ => law_1539 h hi hn nx, fun _ => law_1595 h hi hn nx, fun _ => law_1651 h hi hn nx, fun _ => law_1719 h hi hn nx, fun _ => law_1799 h hi hn nx, fun _ => law_1855 h hi hn nx, fun _ => law_1923 h hi hn nx, fun _ => law_1991 h hi hn nx, fun _ => law_2066 h hi hn nx, fun _ => law_2141 h hi hn nx, fun _ => law_2216 h hi hn nx, fun _ => law_2284 h hi hn nx, fun _ => law_2352 h hi hn nx, fun _ => law_2420 h hi hn nx, fun _ => law_2476 h hi hn nx, fun _ => law_2553 h hi hn nx, fun _ => law_2633 h hi hn nx, fun _ => law_2689 h hi hn nx, fun _ => nx S σ (h.more (by omega) (by omega))⟩
theorem law_start {σ0 : AH} (hn : n ≤ 3072) (W : WF Γ σ0) (h1 : hs σ0 sc = some (28, n)) (hc0 : hc σ0 = 0) (hv0 : hv σ0 = 0) : EV Γ ML_law 200 0 [some (.ref sc), none, none, none, none, none, none, none, none] [] σ0 QF := by
  have scb : sc < lo Γ := by
    have := W.1 _ _ h1
    omega
  refine gL_law_0 (fun q1 σ2 eq1 e2 => ?_)
  have W2 : WF Γ σ2 := by rw [e2, eq1]; exact W.mk
  have F2 : FR (fun a => lo Γ ≤ a) σ0 σ2 := by rw [e2, eq1]; exact FR.mk _ _ W (by omega)
  have s2 : hs σ2 q1 = some (6, 17) := by rw [e2]; exact hs_mk_s _ _ _ _
  have c2 : hc σ2 = 1 := by rw [e2, hc_mk, hc0]
  have v2 : hv σ2 = 17 := by rw [e2, hv_mk, hv0]
  refine CV.of (d2 := 3) (ini8_R (own0 := fun _ => 0) s2 (by omega)) (by omega) (fun σ4 W4 z => ?_)
  obtain ⟨w, hw, R4, F4, c4, v4⟩ := z
  intro q6 σ7 eq6 e7
  have W7 : WF Γ σ7 := by rw [e7, eq6]; exact W4.mk
  have F7 : FR (fun a => lo Γ + hc σ4 ≤ a) σ4 σ7 := by rw [e7, eq6]; exact FR.mk _ _ W4 (Nat.le_refl _)
  have s7 : hs σ7 q6 = some (7, 27) := by rw [e7]; exact hs_mk_s _ _ _ _
  have g7 : gi σ7 q6 = fun _ => 0 := by rw [e7]; exact gi_mk_s _ _ _ _
  have c7 : hc σ7 = hc σ4 + 1 := by rw [e7]; rfl
  have v7 : hv σ7 = hv σ4 + 27 := by rw [e7]; rfl
  refine CV.of (d2 := 1) (minit_R (own0 := ownC (fun _ => 0) q1 (lo Γ + hc σ2)) s7 g7 (by omega)) (by omega) (fun σ9 W9 z => ?_)
  obtain ⟨R9, F9, c9, v9⟩ := z
  intro q11 σ12 eq11 e12 q14 σ15 eq14 e15
  have W12 : WF Γ σ12 := by rw [e12, eq11]; exact W9.mk
  have W15 : WF Γ σ15 := by rw [e15, eq14]; exact W12.mk
  have F12 : FR (fun a => lo Γ + hc σ9 ≤ a) σ9 σ12 := by rw [e12, eq11]; exact FR.mk _ _ W9 (Nat.le_refl _)
  have c12 : hc σ12 = hc σ9 + 1 := by rw [e12]; rfl
  have v12 : hv σ12 = hv σ9 + 1 := by rw [e12]; rfl
  have F15 : FR (fun a => lo Γ + hc σ9 ≤ a) σ12 σ15 := by rw [e15, eq14]; exact FR.mk _ _ W12 (by omega)
  have c15 : hc σ15 = hc σ12 + 1 := by rw [e15]; rfl
  have v15 : hv σ15 = hv σ12 + 1 := by rw [e15]; rfl
  have s12 : hs σ12 q11 = some (23, 1) := by rw [e12]; exact hs_mk_s _ _ _ _
  have s15 : hs σ15 q14 = some (24, 1) := by rw [e15]; exact hs_mk_s _ _ _ _
  have T9 : FR (fun a => lo Γ + hc σ9 ≤ a) σ9 σ15 := F12.trans F15
  have T4 : FR (fun a => lo Γ + hc σ4 ≤ a) σ4 σ15 := (F7.trans (F9.mono (fun a h => by
    rcases h with z | z
    · omega
    · omega))).trans (T9.mono (fun a h => by omega))
  have T0 : FR (fun a => lo Γ ≤ a) σ0 σ15 := (F2.trans (F4.mono (fun a h => by
    rcases h with z | z
    · omega
    · omega))).trans (T4.mono (fun a h => by omega))
  generalize hoc : ownC (fun _ => 0) q1 (lo Γ + hc σ2) = oc at *
  generalize hom : ownM oc q6 (lo Γ + hc σ7) = om at *
  have ocs : oc sc = 0 := by
    rw [← hoc]
    exact (if_neg (by omega)).trans (if_neg (by omega))
  have oms : ∀ a, a < lo Γ + hc σ4 → om a = oc a := fun a ha => by
    rw [← hom]
    exact (if_neg (by omega)).trans (if_neg (by omega))
  have ox : ∀ a, a < lo Γ + hc σ9 → up (up om q11 90) q14 91 a = om a := fun a ha => (up_ne _ _ (by omega)).trans (up_ne _ _ (by omega))
  have RC : RepC Γ σ15 (up (up om q11 90) q14 91) (adC q1 (lo Γ + hc σ2)) stS 6 w := R4.keep (W := fun _ => False) W4 (T4.mono (fun a h => Or.inr h)) (fun r h => h.elim) (fun a ha _ => (ox a (by omega)).trans (oms a ha))
  have RM' : RepM Γ σ15 (up (up om q11 90) q14 91) (madM q6 (lo Γ + hc σ7)) stS 6 := R9.keep (W := fun _ => False) (T9.mono (fun a h => Or.inr h)) (fun r h => h.elim) (fun a ha => ox a ha)
  have LT0 : LT Γ (adC q1 (lo Γ + hc σ2)) (madM q6 (lo Γ + hc σ7)) sc n q11 q14 (gi σ0 sc) stS stS (100 + 8 * 0) (50000 + 300 * 0) σ15 := by
    refine ⟨W15, _, 6, w, 6, RC, RM', ⟨T0.gh h1, ?_, by omega, T0.gi (by omega)⟩, ⟨F15.gh s12, ?_, by omega⟩, ⟨s15, up_same _ _ _, by omega⟩, by omega, by omega⟩
    · rw [ox sc (by omega), oms sc (by omega)]; exact ocs
    · exact (up_ne _ _ (by omega)).trans (up_same _ _ _)
  exact law_loop hn (n + 6) 0 σ15 stS (by omega) (by omega) LT0
end LOOP
