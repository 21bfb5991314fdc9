/-! ROWS of Diagrams: enlarge, numberOf. -/
theorem hs_ne {σ : AH} {a b : Nat} {x y : Nat × Nat} (h : hs σ a = some x) (k : hs σ b = some y) (ne : x.1 ≠ y.1) : a ≠ b := fun e => by
  rw [e, k] at h
  exact ne (by rw [Option.some.inj h])
theorem gr_setR_s (σ : AH) (a i : Nat) (x : Option Nat) : gr (setR σ a i x) a = up (gr σ a) i x := up_same _ _ _
theorem gi_setI_s (σ : AH) (a i : Nat) (x : Int32) : gi (setI σ a i x) a = up (gi σ a) i x := up_same _ _ _
theorem gi_setI_n (σ : AH) {a b : Nat} (i : Nat) (x : Int32) (h : b ≠ a) : gi (setI σ a i x) b = gi σ b := up_ne _ _ h
theorem gj_setJ_s (σ : AH) (a i : Nat) (x : Int64) : gj (setJ σ a i x) a = up (gj σ a) i x := up_same _ _ _
theorem gr_mk_n (σ : AH) {q b : Nat} (k n : Nat) (h : b ≠ q) : gr (mk σ q k n) b = gr σ b := up_ne _ _ h
theorem gi_mk_n (σ : AH) {q b : Nat} (k n : Nat) (h : b ≠ q) : gi (mk σ q k n) b = gi σ b := up_ne _ _ h
theorem gj_mk_n (σ : AH) {q b : Nat} (k n : Nat) (h : b ≠ q) : gj (mk σ q k n) b = gj σ b := up_ne _ _ h
theorem hs_mk_n (σ : AH) {q b : Nat} (k n : Nat) (h : b ≠ q) : hs (mk σ q k n) b = hs σ b := up_ne _ _ h
theorem hs_mk_s (σ : AH) (q k n : Nat) : hs (mk σ q k n) q = some (k, n) := up_same _ _ _
theorem gi_mk_s (σ : AH) (q k n : Nat) : gi (mk σ q k n) q = fun _ => 0 := up_same _ _ _
theorem gj_mk_s (σ : AH) (q k n : Nat) : gj (mk σ q k n) q = fun _ => 0 := up_same _ _ _
def DG (σ : AH) (dg pa ke us me pl c nx : Nat) : Prop :=
  hs σ dg = some (3, 8) ∧ gr σ dg 0 = some pa ∧ gr σ dg 1 = some ke ∧ gr σ dg 2 = some us ∧ gr σ dg 3 = some me ∧ gr σ dg 4 = some pl ∧ hs σ pa = some (22, 4096) ∧ hs σ ke = some (23, 2 ^ c) ∧ hs σ us = some (22, 2 ^ c) ∧ hs σ me = some (22, 2 ^ c) ∧ hs σ pl = some (22, 2 ^ (c + 1)) ∧ us ≠ me ∧ us ≠ pl ∧ me ≠ pl ∧ pa ≠ us ∧ pa ≠ me ∧ pa ≠ pl ∧ gi σ dg 5 = nI nx ∧ 2 ≤ nx ∧ nx ≤ 2 ^ c ∧ (6 ≤ c ∧ (c = 6 ∨ 2 ^ (c - 1) ≤ nx)) ∧ c ≤ 20 ∧ HT (gi σ pl) (gj σ ke) nx (2 ^ (c + 1)) ∧ (∀ i, nx ≤ i → i < 2 ^ c → gi σ us i = 0 ∧ gi σ me i = 0) ∧ ∀ i j, 2 ≤ i → i < nx → 2 ≤ j → j < nx → gj σ ke i = gj σ ke j → i = j
def dP (dg b : Nat) : Nat → Prop := fun a => a = dg ∨ b ≤ a
theorem enlarge_R {Γ : Gm} {d : Nat} {σ : AH} {dg pa ke us me pl c nx : Nat} (D : DG σ dg pa ke us me pl c nx) (hc19 : c ≤ 19) (hfull : 2 ^ c ≤ nx) (hd : 4 ≤ d) : RV Γ d MX3_enlarge [.ref dg] σ (fun σ' => ∃ ke' us' me' pl', DG σ' dg pa ke' us' me' pl' (c + 1) nx ∧ (lo Γ + hc σ ≤ ke' ∧ lo Γ + hc σ ≤ us' ∧ lo Γ + hc σ ≤ me' ∧ lo Γ + hc σ ≤ pl') ∧ (∀ i, i < 2 ^ c → gj σ' ke' i = gj σ ke i ∧ gi σ' us' i = gi σ us i ∧ gi σ' me' i = gi σ me i) ∧ gi σ' dg = gi σ dg ∧ FR (dP dg (lo Γ + hc σ)) σ σ' ∧ hc σ' = hc σ + 4 ∧ hv σ' = hv σ + 5 * 2 ^ (c + 1)) := by
  refine RUN.wf (fun W => ?_)
  obtain ⟨D0, D1, D2, D3, D4, D5, D6, D7, D8, D9, D10, n1, n2, n3, n4, n5, n6, D11, D12, D13, D14, D15, D16, D17, D18⟩ := D
  have hp : 2 ^ c ≤ 2 ^ 19 := Nat.pow_le_pow_right (by decide) hc19
  have hp1 : 2 ^ (c + 1) = 2 * 2 ^ c := by rw [Nat.pow_succ]; omega
  have hp2 : 2 ^ (c + 1 + 1) = 2 * (2 * 2 ^ c) := by rw [Nat.pow_succ, hp1]; omega
  have h0 := Nat.two_pow_pos c
  have e2 : (2 : Int32) * nI (2 ^ c) = nI (2 * 2 ^ c) := pk_mul 2 _
  have B := W.1
  have bdg := B dg _ D0
  have bpa := B pa _ D6
  have bus := B us _ D8
  have bme := B me _ D9
  have P0 : dP dg (lo Γ + hc σ) dg := Or.inl rfl
  refine eX3_enlarge ⟨D0, ke, D2, 2 ^ c, D7, ?_⟩
  rw [e2]
  refine CR.of (d2 := 3) (copyJ_R (2 * 2 ^ c) D7 (by omega) (by omega) (by omega) (by omega)) (by omega) (fun r σ6 W6 e6 => ?_)
  obtain ⟨rfl, f1, e6, f1a, f1b⟩ := e6
  refine ⟨_, rfl, ?_⟩
  generalize hq1 : lo Γ + hc σ = q1 at *
  have c6 : hc σ6 = hc σ + 1 := by rw [e6]; rfl
  have v6 : hv σ6 = hv σ + 2 * 2 ^ c := by rw [e6]; rfl
  have F6 : FR (dP dg q1) σ σ6 := by
    rw [e6]
    refine FR.trans (by rw [← hq1]; exact FR.mk _ _ W (Or.inr (Nat.le_refl _))) (FR.rowJ _ _ (Or.inr (Nat.le_refl _)))
  have g6 : ∀ b, b ≠ q1 → gr σ6 b = gr σ b ∧ gi σ6 b = gi σ b := fun b hb => by rw [e6]; exact ⟨gr_mk_n σ 23 (2 * 2 ^ c) hb, gi_mk_n σ 23 (2 * 2 ^ c) hb⟩
  have k6 : gj σ6 q1 = f1 := by rw [e6, gj_row]
  have s6 : hs σ6 q1 = some (23, 2 * 2 ^ c) := by rw [e6]; exact hs_mk_s σ q1 23 (2 * 2 ^ c)
  refine ⟨F6.gh D0, fun σ9 e9 => ?_⟩
  have ne1 : dg ≠ q1 := by omega
  have F9 : FR (dP dg q1) σ σ9 := by rw [e9]; exact F6.trans (FR.setR _ _ _ P0)
  have W9 : WF Γ σ9 := by rw [e9]; exact W6.upd (F6.gh D0) (by omega) rfl rfl (fun _ _ => rfl)
  have c9 : hc σ9 = hc σ + 1 := by rw [e9]; exact c6
  have v9 : hv σ9 = hv σ + 2 * 2 ^ c := by rw [e9]; exact v6
  have r9 : gr σ9 dg = up (gr σ dg) 1 (some q1) := by rw [e9, gr_setR_s, (g6 dg ne1).1]
  have i9 : ∀ b, b ≠ q1 → gi σ9 b = gi σ b := fun b hb => by rw [e9]; exact (g6 b hb).2
  have k9 : gj σ9 q1 = f1 := by rw [e9]; exact k6
  have s9 : hs σ9 q1 = some (23, 2 * 2 ^ c) := by rw [e9]; exact s6
  refine ⟨us, by rw [r9, up_ne _ _ (by decide)]; exact D3, ?_⟩
  refine CR.of (d2 := 3) (copyI_R (2 * 2 ^ c) (F9.gh D8) (by omega) (by omega) (by omega) (by omega)) (by omega) (fun r σ14 W14 e14 => ?_)
  obtain ⟨rfl, f2, e14, f2a, f2b⟩ := e14
  refine ⟨_, rfl, ?_⟩
  generalize hq2 : lo Γ + hc σ9 = q2 at *
  have c14 : hc σ14 = hc σ + 2 := by rw [e14]; show hc σ9 + 1 = _; omega
  have v14 : hv σ14 = hv σ + 2 * (2 * 2 ^ c) := by rw [e14]; show hv σ9 + _ = _; omega
  have P2 : dP dg q1 q2 := Or.inr (by omega)
  have F14 : FR (dP dg q1) σ σ14 := by
    rw [e14]
    refine F9.trans (FR.trans (by rw [← hq2]; exact FR.mk _ _ W9 (by rw [hq2]; exact P2)) (FR.rowI _ _ P2))
  have ne2 : dg ≠ q2 := by omega
  have r14 : gr σ14 dg = up (gr σ dg) 1 (some q1) := by rw [e14]; exact (gr_mk_n σ9 22 (2 * 2 ^ c) ne2).trans r9
  have i14 : ∀ b, b ≠ q2 → gi σ14 b = gi σ9 b := fun b hb => by rw [e14, gi_rown _ _ hb]; exact gi_mk_n σ9 22 (2 * 2 ^ c) hb
  have u14 : gi σ14 q2 = f2 := by rw [e14, gi_row]
  have k14 : gj σ14 q1 = f1 := by rw [e14]; exact (gj_mk_n σ9 22 (2 * 2 ^ c) (by omega)).trans k9
  have s14 : hs σ14 q1 = some (23, 2 * 2 ^ c) := by rw [e14]; exact (hs_mk_n σ9 22 (2 * 2 ^ c) (by omega)).trans s9
  have t14 : hs σ14 q2 = some (22, 2 * 2 ^ c) := by rw [e14]; exact hs_mk_s σ9 q2 22 (2 * 2 ^ c)
  refine ⟨F14.gh D0, fun σ17 e17 => ?_⟩
  have F17 : FR (dP dg q1) σ σ17 := by rw [e17]; exact F14.trans (FR.setR _ _ _ P0)
  have W17 : WF Γ σ17 := by rw [e17]; exact W14.upd (F14.gh D0) (by omega) rfl rfl (fun _ _ => rfl)
  have c17 : hc σ17 = hc σ + 2 := by rw [e17]; exact c14
  have v17 : hv σ17 = hv σ + 2 * (2 * 2 ^ c) := by rw [e17]; exact v14
  have r17 : gr σ17 dg = up (up (gr σ dg) 1 (some q1)) 2 (some q2) := by rw [e17, gr_setR_s, r14]
  have i17 : gi σ17 = gi σ14 := by rw [e17]; rfl
  have j17 : gj σ17 = gj σ14 := by rw [e17]; rfl
  have h17 : hs σ17 = hs σ14 := by rw [e17]; rfl
  refine ⟨me, by rw [r17, up_ne _ _ (by decide), up_ne _ _ (by decide)]; exact D4, ?_⟩
  refine CR.of (d2 := 3) (copyI_R (2 * 2 ^ c) (F17.gh D9) (by omega) (by omega) (by omega) (by omega)) (by omega) (fun r σ22 W22 e22 => ?_)
  obtain ⟨rfl, f3, e22, f3a, f3b⟩ := e22
  refine ⟨_, rfl, ?_⟩
  generalize hq3 : lo Γ + hc σ17 = q3 at *
  have c22 : hc σ22 = hc σ + 3 := by rw [e22]; show hc σ17 + 1 = _; omega
  have v22 : hv σ22 = hv σ + 3 * (2 * 2 ^ c) := by rw [e22]; show hv σ17 + _ = _; omega
  have P3 : dP dg q1 q3 := Or.inr (by omega)
  have F22 : FR (dP dg q1) σ σ22 := by
    rw [e22]
    refine F17.trans (FR.trans (by rw [← hq3]; exact FR.mk _ _ W17 (by rw [hq3]; exact P3)) (FR.rowI _ _ P3))
  have ne3 : dg ≠ q3 := by omega
  have r22 : gr σ22 dg = up (up (gr σ dg) 1 (some q1)) 2 (some q2) := by rw [e22]; exact (gr_mk_n σ17 22 (2 * 2 ^ c) ne3).trans r17
  have i22 : ∀ b, b ≠ q3 → gi σ22 b = gi σ14 b := fun b hb => by rw [e22, gi_rown _ _ hb, ← i17]; exact gi_mk_n σ17 22 (2 * 2 ^ c) hb
  have u22 : gi σ22 q3 = f3 := by rw [e22, gi_row]
  have k22 : gj σ22 q1 = f1 := by rw [e22]; exact (gj_mk_n σ17 22 (2 * 2 ^ c) (by omega)).trans (by rw [j17]; exact k14)
  have s22 : hs σ22 q1 = some (23, 2 * 2 ^ c) := by rw [e22]; exact (hs_mk_n σ17 22 (2 * 2 ^ c) (by omega)).trans (by rw [h17]; exact s14)
  have t22 : hs σ22 q2 = some (22, 2 * 2 ^ c) := by rw [e22]; exact (hs_mk_n σ17 22 (2 * 2 ^ c) (by omega)).trans (by rw [h17]; exact t14)
  have w22 : hs σ22 q3 = some (22, 2 * 2 ^ c) := by rw [e22]; exact hs_mk_s σ17 q3 22 (2 * 2 ^ c)
  refine ⟨F22.gh D0, fun σ25 e25 => ?_⟩
  have F25 : FR (dP dg q1) σ σ25 := by rw [e25]; exact F22.trans (FR.setR _ _ _ P0)
  have W25 : WF Γ σ25 := by rw [e25]; exact W22.upd (F22.gh D0) (by omega) rfl rfl (fun _ _ => rfl)
  have c25 : hc σ25 = hc σ + 3 := by rw [e25]; exact c22
  have v25 : hv σ25 = hv σ + 3 * (2 * 2 ^ c) := by rw [e25]; exact v22
  have r25 : gr σ25 dg = up (up (up (gr σ dg) 1 (some q1)) 2 (some q2)) 3 (some q3) := by rw [e25, gr_setR_s, r22]
  have i25 : gi σ25 = gi σ22 := by rw [e25]; rfl
  have j25 : gj σ25 = gj σ22 := by rw [e25]; rfl
  have h25 : hs σ25 = hs σ22 := by rw [e25]; rfl
  refine ⟨2 * (2 * 2 ^ c), by rw [show (2 : Int32) * nI (2 * 2 ^ c) = nI (2 * (2 * 2 ^ c)) from pk_mul 2 _]; exact nI_toInt (by omega), by omega, fun q4 σ32 hq4 e32 => ?_⟩
  have c32 : hc σ32 = hc σ + 4 := by rw [e32]; show hc σ25 + 1 = _; omega
  have v32 : hv σ32 = hv σ + 5 * (2 * 2 ^ c) := by rw [e32]; show hv σ25 + _ = _; omega
  have P4 : dP dg q1 q4 := Or.inr (by omega)
  have F32 : FR (dP dg q1) σ σ32 := by
    rw [e32]
    refine F25.trans ?_
    rw [hq4]
    exact FR.mk _ _ W25 (by rw [← hq4]; exact P4)
  have W32 : WF Γ σ32 := by rw [e32, hq4]; exact W25.mk
  have ne4 : dg ≠ q4 := by omega
  have r32 : gr σ32 dg = up (up (up (gr σ dg) 1 (some q1)) 2 (some q2)) 3 (some q3) := by rw [e32]; exact (gr_mk_n _ _ _ ne4).trans r25
  have i32 : ∀ b, b ≠ q4 → gi σ32 b = gi σ22 b := fun b hb => by rw [e32, ← i25]; exact gi_mk_n _ _ _ hb
  have u32 : gi σ32 q4 = fun _ => 0 := by rw [e32]; exact gi_mk_s _ _ _ _
  have k32 : gj σ32 q1 = f1 := by rw [e32]; exact (gj_mk_n _ _ _ (by omega)).trans (by rw [j25]; exact k22)
  have s32 : hs σ32 q1 = some (23, 2 * 2 ^ c) := by rw [e32]; exact (hs_mk_n _ _ _ (by omega)).trans (by rw [h25]; exact s22)
  have t32 : hs σ32 q2 = some (22, 2 * 2 ^ c) := by rw [e32]; exact (hs_mk_n _ _ _ (by omega)).trans (by rw [h25]; exact t22)
  have w32 : hs σ32 q3 = some (22, 2 * 2 ^ c) := by rw [e32]; exact (hs_mk_n _ _ _ (by omega)).trans (by rw [h25]; exact w22)
  have x32 : hs σ32 q4 = some (22, 2 * (2 * 2 ^ c)) := by rw [e32]; exact hs_mk_s _ _ _ _
  refine ⟨F32.gh D0, fun σ35 e35 => ?_⟩
  have F35 : FR (dP dg q1) σ σ35 := by rw [e35]; exact F32.trans (FR.setR _ _ _ P0)
  have r35 : gr σ35 dg = up (up (up (up (gr σ dg) 1 (some q1)) 2 (some q2)) 3 (some q3)) 4 (some q4) := by rw [e35, gr_setR_s, r32]
  have h35 : hs σ35 = hs σ32 := by rw [e35]; rfl
  have i35 : gi σ35 = gi σ32 := by rw [e35]; rfl
  have j35 : gj σ35 = gj σ32 := by rw [e35]; rfl
  have idg : gi σ35 dg = gi σ dg := by rw [i35, i32 _ ne4, i22 _ ne3, i14 _ ne2, i9 _ ne1]
  have ius : gi σ35 q2 = f2 := by rw [i35, i32 _ (by omega), i22 _ (by omega), u14]
  have ime : gi σ35 q3 = f3 := by rw [i35, i32 _ (by omega), u22]
  have ipl : gi σ35 q4 = fun _ => 0 := by rw [i35, u32]
  have jke : gj σ35 q1 = f1 := by rw [j35, k32]
  have c35 : hc σ35 = hc σ + 4 := by rw [e35]; exact c32
  have v35 : hv σ35 = hv σ + 5 * (2 * 2 ^ c) := by rw [e35]; exact v32
  have R1 : gr σ35 dg 1 = some q1 := by rw [r35, up_ne _ _ (by decide), up_ne _ _ (by decide), up_ne _ _ (by decide), up_same]
  have R2 : gr σ35 dg 2 = some q2 := by rw [r35, up_ne _ _ (by decide), up_ne _ _ (by decide), up_same]
  have R3 : gr σ35 dg 3 = some q3 := by rw [r35, up_ne _ _ (by decide), up_same]
  have R4 : gr σ35 dg 4 = some q4 := by rw [r35, up_same]
  have R0 : gr σ35 dg 0 = some pa := by rw [r35, up_ne _ _ (by decide), up_ne _ _ (by decide), up_ne _ _ (by decide), up_ne _ _ (by decide)]; exact D1
  have L : ∀ k, k ≤ nx → 2 ≤ k → ∀ g, HT g f1 k (2 ^ (c + 1 + 1)) → EV Γ MX3_enlarge d 55 [some (.ref dg), none, some (.int (nI k))] [] (rowI σ35 q4 g) (fun o σ' => o = .inl none ∧ ∃ ke' us' me' pl', DG σ' dg pa ke' us' me' pl' (c + 1) nx ∧ (q1 ≤ ke' ∧ q1 ≤ us' ∧ q1 ≤ me' ∧ q1 ≤ pl') ∧ (∀ i, i < 2 ^ c → gj σ' ke' i = gj σ ke i ∧ gi σ' us' i = gi σ us i ∧ gi σ' me' i = gi σ me i) ∧ gi σ' dg = gi σ dg ∧ FR (dP dg q1) σ σ' ∧ hc σ' = hc σ + 4 ∧ hv σ' = hv σ + 5 * 2 ^ (c + 1)) := by
    refine upto nx ?_ (fun k hk ih => ?_)
    · intro _ g T
      refine gX3_enlarge_55 ⟨F35.gh D0, fun _ => ⟨rfl, q1, q2, q3, q4, ?_, by omega, ?_, ?_, F35.trans (FR.rowI _ _ P4), c35, by rw [hp1]; exact v35⟩, fun z => ?_⟩
      · refine ⟨F35.gh D0, R0, R1, R2, R3, R4, F35.gh D6, ?_, ?_, ?_, ?_, by omega, by omega, by omega, by omega, by omega, by omega, ?_, D12, by omega, ⟨by omega, Or.inr (by rw [Nat.add_sub_cancel]; exact hfull)⟩, by omega, ?_, ?_, ?_⟩
        · show hs σ35 q1 = _; rw [h35, s32, hp1]
        · show hs σ35 q2 = _; rw [h35, t32, hp1]
        · show hs σ35 q3 = _; rw [h35, w32, hp1]
        · show hs σ35 q4 = _; rw [h35, x32, hp2]
        · rw [gi_rown _ _ ne4, idg]; exact D11
        · rw [gi_row]
          show HT g (gj σ35 q1) _ _
          rw [jke]; exact T
        · intro i h1 h2
          rw [gi_rown _ _ (by omega), gi_rown _ _ (by omega), ius, ime]
          rcases Nat.lt_or_ge i (2 ^ c) with z | z
          · rw [f2a i z, f3a i z, i9 us (by omega), i17, i14 me (by omega), i9 me (by omega)]
            exact D17 i h1 z
          · exact ⟨f2b i z (by omega), f3b i z (by omega)⟩
        · intro i j h2 hi h2' hj e
          have e' : f1 i = f1 j := by rw [← jke]; exact e
          rw [f1a i (by omega), f1a j (by omega)] at e'
          exact D18 i j h2 hi h2' hj e'
      · intro i hi
        refine ⟨?_, ?_, ?_⟩
        · show gj σ35 q1 i = _
          rw [jke]; exact f1a i hi
        · rw [gi_rown _ _ (by omega), ius, f2a i hi, i9 us (by omega)]
        · rw [gi_rown _ _ (by omega), ime, f3a i hi, i17, i14 me (by omega), i9 me (by omega)]
      · rw [gi_rown _ _ ne4]; exact idg
      · exfalso
        apply z
        rw [gi_rown _ _ ne4, idg, D11]
        exact (nI_leI (by omega) (by omega)).mpr (Nat.le_refl _)
    · intro h2 g T
      have D11' : gi (rowI σ35 q4 g) dg 5 = nI nx := by rw [gi_rown _ _ ne4, idg]; exact D11
      refine gX3_enlarge_55 ⟨F35.gh D0, fun z => ?_, fun _ => ⟨q4, R4, q1, R1, 2 * 2 ^ c, by show hs σ35 q1 = _; rw [h35]; exact s32, k, IXn (by omega) (by omega), ?_⟩⟩
      · rw [D11'] at z
        have := (nI_leI (by omega) (by omega)).mp z
        omega
      · have jk : gj (rowI σ35 q4 g) q1 = f1 := jke
        rw [jk]
        refine CI.of (d2 := 3) (placeOf_R (σ := rowI σ35 q4 g) (n := k) (j := c + 1 + 1) (F35.gh D0) R1 R4 (by show hs σ35 q1 = _; rw [h35]; exact s32) (by show hs σ35 q4 = _; rw [h35, x32, hp2]) (by omega) (by omega) (by omega) (by omega) (by rw [gi_row, jk]; exact T)) (by omega) (fun r σ11 hw e11 => ?_)
        obtain ⟨rfl, p, hp3, rfl, hcase⟩ := e11
        refine ⟨2 * (2 * 2 ^ c), by show hs σ35 q4 = _; rw [h35]; exact x32, p, IXn (by omega) (by omega), fun σ17' e17' => ?_⟩
        rw [setI_rowI] at e17'
        rw [e17', nI_1]
        refine ih (by omega) _ ?_
        rcases hcase with ⟨fr, _⟩ | ⟨i, h2', hi, _, ek⟩
        · rw [gi_row] at fr
          exact HT.insert h2 (by omega) hp3 T fr
        · -- two nodes with one key: not so
          exfalso
          rw [jk] at ek
          rw [f1a i (by omega), f1a k (by omega)] at ek
          have := D18 i k h2' (by omega) h2 hk ek
          omega
  have := L 2 D12 (Nat.le_refl _) (fun _ => 0) (HT.empty _ _ _ (fun _ _ => rfl))
  rw [← ipl, rowI_self] at this
  exact this

