/-! ROWS of the class: what the constructors leave. -/
theorem gR_s (σ : AH) (a i : Nat) (x : Option Nat) : gr (setR σ a i x) a = up (gr σ a) i x := up_same _ _ _
theorem gM_n (σ : AH) {q b : Nat} (k n : Nat) (h : b ≠ q) : gr (mk σ q k n) b = gr σ b := up_ne _ _ h
theorem gM_s (σ : AH) (q k n : Nat) : gr (mk σ q k n) q = fun _ => none := up_same _ _ _
section INI
variable {Γ : Gm} {d : Nat} {σ : AH}
/-- the object and new cells -/
def OB (Γ : Gm) (σ : AH) (v : Nat) : Nat → Prop := fun a => a = v ∨ lo Γ + hc σ ≤ a
theorem ini0_R {v v1 v2 : Nat} (h0 : hs σ v = some (0, 4)) (hd : 1 ≤ d) : RV Γ d MX0_init [.ref v, .ref v1, .ref v2] σ (fun τ => gr τ v 0 = some v1 ∧ gr τ v 1 = some v2 ∧ gr τ v 2 = some (lo Γ + hc σ) ∧ gr τ v 3 = some (lo Γ + hc σ + 1) ∧ hs τ (lo Γ + hc σ) = some (23, 64) ∧ hs τ (lo Γ + hc σ + 1) = some (23, 64) ∧ FR (OB Γ σ v) σ τ ∧ hc τ = hc σ + 2 ∧ hv τ = hv σ + 128) := by
  refine RUN.wf (fun W => eX0_init ⟨hd, fun q2 σ3 hq2 e3 => ?_⟩)
  have vb := W.1 _ _ h0
  have W3 : WF Γ σ3 := by rw [e3, hq2]; exact W.mk
  have c3 : hc σ3 = hc σ + 1 := by rw [e3]; rfl
  have h3 : hs σ3 v = some (0, 4) := by rw [e3]; exact (hs_mk_n _ _ _ (by omega)).trans h0
  refine ⟨h3, fun σ6 e6 q10 σ11 hq10 e11 => ?_⟩
  have c6 : hc σ6 = hc σ + 1 := by rw [e6]; exact c3
  have W6 : WF Γ σ6 := by rw [e6]; exact W3.upd h3 (by decide) rfl rfl (fun _ _ => rfl)
  have h11 : hs σ11 v = some (0, 4) := by rw [e11]; exact (hs_mk_n _ _ _ (by omega)).trans (by rw [e6]; exact h3)
  refine ⟨h11, fun σ14 e14 σ18 e18 σ22 e22 => ?_⟩
  have g6 : gr σ6 v = up (gr σ3 v) 2 (some q2) := by rw [e6]; exact gR_s _ _ _ _
  have g11 : gr σ11 v = gr σ6 v := by rw [e11]; exact gM_n _ _ _ (by omega)
  have g14 : gr σ14 v = up (gr σ11 v) 3 (some q10) := by rw [e14]; exact gR_s _ _ _ _
  have g18 : gr σ18 v = up (gr σ14 v) 0 (some v1) := by rw [e18]; exact gR_s _ _ _ _
  have g22 : gr σ22 v = up (gr σ18 v) 1 (some v2) := by rw [e22]; exact gR_s _ _ _ _
  have hs22 : hs σ22 = hs σ11 := by rw [e22, e18, e14]; rfl
  have gv : gr σ22 v = up (up (up (up (gr σ3 v) 2 (some q2)) 3 (some q10)) 0 (some v1)) 1 (some v2) := by rw [g22, g18, g14, g11, g6]
  refine ⟨rfl, (congrFun gv 0).trans ((up_ne _ _ (by decide)).trans (up_same _ _ _)), (congrFun gv 1).trans (up_same _ _ _), ?_, ?_, ?_, ?_, ?_, by rw [e22, e18, e14, e11]; show hc σ6 + 1 = _; omega, by rw [e22, e18, e14, e11, e6, e3]; rfl⟩
  · rw [gv, up_ne _ _ (by decide), up_ne _ _ (by decide), up_ne _ _ (by decide), up_same, hq2]
  · rw [gv, up_ne _ _ (by decide), up_ne _ _ (by decide), up_same, hq10, c6]; rfl
  · rw [hs22, e11, hs_mk_n _ _ _ (by omega), e6]
    show hs σ3 _ = _
    rw [e3, hq2]; exact hs_mk_s _ _ _ _
  · rw [hs22, e11, hq10, c6]; exact hs_mk_s _ _ _ _
  · have F3 : FR (OB Γ σ v) σ σ3 := by rw [e3, hq2]; exact FR.mk 23 64 W (Or.inr (Nat.le_refl _))
    have F6 : FR (OB Γ σ v) σ3 σ6 := by rw [e6]; exact FR.setR (P := OB Γ σ v) _ _ _ (Or.inl rfl)
    have F11 : FR (OB Γ σ v) σ6 σ11 := by rw [e11, hq10]; exact FR.mk 23 64 W6 (Or.inr (by omega))
    have F22 : FR (OB Γ σ v) σ11 σ22 := by
      rw [e22, e18, e14]
      exact ((FR.setR (P := OB Γ σ v) _ _ _ (Or.inl rfl)).trans (FR.setR (P := OB Γ σ v) _ _ _ (Or.inl rfl))).trans (FR.setR (P := OB Γ σ v) _ _ _ (Or.inl rfl))
    exact ((F3.trans F6).trans F11).trans F22
theorem ini1_R {v : Nat} (h0 : hs σ v = some (1, 2)) (hd : 1 ≤ d) : RV Γ d MX1_init [.ref v] σ (fun τ => gr τ v 0 = some (lo Γ + hc σ) ∧ gi τ v 1 = 0 ∧ hs τ (lo Γ + hc σ) = some (26, 43) ∧ (gr τ (lo Γ + hc σ) = fun _ => none) ∧ FR (OB Γ σ v) σ τ ∧ hc τ = hc σ + 1 ∧ hv τ = hv σ + 43) := by
  refine RUN.wf (fun W => eX1_init ⟨hd, fun q2 σ3 hq2 e3 => ?_⟩)
  have vb := W.1 _ _ h0
  have h3 : hs σ3 v = some (1, 2) := by rw [e3]; exact (hs_mk_n _ _ _ (by omega)).trans h0
  refine ⟨h3, fun σ6 e6 σ10 e10 => ?_⟩
  have hs10 : hs σ10 = hs σ3 := by rw [e10, e6]; rfl
  have gr10 : gr σ10 = gr σ6 := by rw [e10]; rfl
  have g6 : gr σ6 v = up (gr σ3 v) 0 (some q2) := by rw [e6]; exact gR_s _ _ _ _
  have g6q : gr σ6 (lo Γ + hc σ) = gr σ3 (lo Γ + hc σ) := by rw [e6]; exact up_ne _ _ (by omega)
  refine ⟨rfl, ?_, ?_, ?_, ?_, ?_, by rw [e10, e6, e3]; rfl, by rw [e10, e6, e3]; rfl⟩
  · rw [gr10, g6, up_same, hq2]
  · rw [e10, gi_setI_s, up_same]
  · rw [hs10, e3, hq2]; exact hs_mk_s _ _ _ _
  · rw [gr10, g6q, e3, hq2]; exact gM_s _ _ _ _
  · have F3 : FR (OB Γ σ v) σ σ3 := by rw [e3, hq2]; exact FR.mk 26 43 W (Or.inr (Nat.le_refl _))
    have F6 : FR (OB Γ σ v) σ3 σ6 := by rw [e6]; exact FR.setR (P := OB Γ σ v) _ _ _ (Or.inl rfl)
    have F10 : FR (OB Γ σ v) σ6 σ10 := by rw [e10]; exact FR.setI (P := OB Γ σ v) _ _ _ (Or.inl rfl)
    exact (F3.trans F6).trans F10
theorem csum_0 (m : Nat) : ∀ n, csum (fun _ => 0) n m = 0
  | 0 => rfl
  | n + 1 => by
    show csum (fun _ => 0) n m + (if m.testBit n then 0 else 0) = 0
    rw [csum_0 m n, ite_self]; rfl
theorem ini2_R {v : Nat} (h0 : hs σ v = some (2, 3)) (hd : 1 ≤ d) : RV Γ d MX2_init [.ref v] σ (fun τ => CostOK τ v (lo Γ + hc σ) (lo Γ + hc σ + 1) (lo Γ + hc σ + 2) (fun _ => 0) ∧ FR (OB Γ σ v) σ τ ∧ hc τ = hc σ + 3 ∧ hv τ = hv σ + 140) := by
  refine RUN.wf (fun W => eX2_init ⟨hd, fun q2 σ3 hq2 e3 => ?_⟩)
  have vb := W.1 _ _ h0
  have W3 : WF Γ σ3 := by rw [e3, hq2]; exact W.mk
  have c3 : hc σ3 = hc σ + 1 := by rw [e3]; rfl
  have h3 : hs σ3 v = some (2, 3) := by rw [e3]; exact (hs_mk_n _ _ _ (by omega)).trans h0
  refine ⟨h3, fun σ6 e6 q10 σ11 hq10 e11 => ?_⟩
  have c6 : hc σ6 = hc σ + 1 := by rw [e6]; exact c3
  have W6 : WF Γ σ6 := by rw [e6]; exact W3.upd h3 (by decide) rfl rfl (fun _ _ => rfl)
  have W11 : WF Γ σ11 := by rw [e11, hq10]; exact W6.mk
  have c11 : hc σ11 = hc σ + 2 := by rw [e11]; show hc σ6 + 1 = _; omega
  have h11 : hs σ11 v = some (2, 3) := by rw [e11]; exact (hs_mk_n _ _ _ (by omega)).trans (by rw [e6]; exact h3)
  refine ⟨h11, fun σ14 e14 q18 σ19 hq18 e19 => ?_⟩
  have c14 : hc σ14 = hc σ + 2 := by rw [e14]; exact c11
  have W14 : WF Γ σ14 := by rw [e14]; exact W11.upd h11 (by decide) rfl rfl (fun _ _ => rfl)
  have h19 : hs σ19 v = some (2, 3) := by rw [e19]; exact (hs_mk_n _ _ _ (by omega)).trans (by rw [e14]; exact h11)
  refine ⟨h19, fun σ22 e22 => ?_⟩
  have a2 : q2 = lo Γ + hc σ := hq2
  have a10 : q10 = lo Γ + hc σ + 1 := by rw [hq10, c6]; rfl
  have a18 : q18 = lo Γ + hc σ + 2 := by rw [hq18, c14]; rfl
  have g6 : gr σ6 v = up (gr σ3 v) 0 (some q2) := by rw [e6]; exact gR_s _ _ _ _
  have g11 : gr σ11 v = gr σ6 v := by rw [e11]; exact gM_n _ _ _ (by omega)
  have g14 : gr σ14 v = up (gr σ11 v) 1 (some q10) := by rw [e14]; exact gR_s _ _ _ _
  have g19 : gr σ19 v = gr σ14 v := by rw [e19]; exact gM_n _ _ _ (by omega)
  have g22 : gr σ22 v = up (gr σ19 v) 2 (some q18) := by rw [e22]; exact gR_s _ _ _ _
  have hs22 : hs σ22 = hs σ19 := by rw [e22]; rfl
  have gi22 : gi σ22 = gi σ19 := by rw [e22]; rfl
  have gi14 : gi σ14 = gi σ11 := by rw [e14]; rfl
  have gi6 : gi σ6 = gi σ3 := by rw [e6]; rfl
  have z2 : gi σ22 q2 = fun _ => 0 := by rw [gi22, e19, gi_mk_n _ _ _ (by omega), gi14, e11, gi_mk_n _ _ _ (by omega), gi6, e3]; exact gi_mk_s _ _ _ _
  have z10 : gi σ22 q10 = fun _ => 0 := by rw [gi22, e19, gi_mk_n _ _ _ (by omega), gi14, e11]; exact gi_mk_s _ _ _ _
  have z18 : gi σ22 q18 = fun _ => 0 := by rw [gi22, e19]; exact gi_mk_s _ _ _ _
  have hs14 : hs σ14 = hs σ11 := by rw [e14]; rfl
  have hs6 : hs σ6 = hs σ3 := by rw [e6]; rfl
  have s2 : hs σ22 q2 = some (22, 12) := by rw [hs22, e19, hs_mk_n _ _ _ (by omega), hs14, e11, hs_mk_n _ _ _ (by omega), hs6, e3]; exact hs_mk_s _ _ _ _
  have s10 : hs σ22 q10 = some (22, 64) := by rw [hs22, e19, hs_mk_n _ _ _ (by omega), hs14, e11]; exact hs_mk_s _ _ _ _
  have s18 : hs σ22 q18 = some (22, 64) := by rw [hs22, e19]; exact hs_mk_s _ _ _ _
  have gv : gr σ22 v = up (up (up (gr σ3 v) 0 (some q2)) 1 (some q10)) 2 (some q18) := by rw [g22, g19, g14, g11, g6]
  refine ⟨rfl, ?_, ?_, by rw [e22, e19]; show hc σ14 + 1 = _; omega, by rw [e22, e19, e14, e11, e6, e3]; rfl⟩
  · rw [← a18, ← a10, ← a2]
    unfold CostOK
    rw [gv, z2, z10, z18]
    exact ⟨by rw [hs22]; exact h19, rfl, rfl, rfl, s2, s10, s18, by omega, by omega, by omega, fun _ _ => rfl, fun m _ => (csum_0 m 6).symm, fun m _ => (csum_0 m 6).symm⟩
  · have F3 : FR (OB Γ σ v) σ σ3 := by rw [e3, hq2]; exact FR.mk 22 12 W (Or.inr (Nat.le_refl _))
    have F6 : FR (OB Γ σ v) σ3 σ6 := by rw [e6]; exact FR.setR (P := OB Γ σ v) _ _ _ (Or.inl rfl)
    have F11 : FR (OB Γ σ v) σ6 σ11 := by rw [e11, hq10]; exact FR.mk 22 64 W6 (Or.inr (by omega))
    have F14 : FR (OB Γ σ v) σ11 σ14 := by rw [e14]; exact FR.setR (P := OB Γ σ v) _ _ _ (Or.inl rfl)
    have F19 : FR (OB Γ σ v) σ14 σ19 := by rw [e19, hq18]; exact FR.mk 22 64 W14 (Or.inr (by omega))
    have F22 : FR (OB Γ σ v) σ19 σ22 := by rw [e22]; exact FR.setR (P := OB Γ σ v) _ _ _ (Or.inl rfl)
    exact ((((F3.trans F6).trans F11).trans F14).trans F19).trans F22
theorem ini6_R {v : Nat} (h0 : hs σ v = some (5, 10)) (hd : 1 ≤ d) : RV Γ d MX6_init [.ref v] σ (fun τ => gr τ v 0 = some (lo Γ + hc σ) ∧ gr τ v 1 = some (lo Γ + hc σ + 1) ∧ hs τ (lo Γ + hc σ) = some (22, 200) ∧ hs τ (lo Γ + hc σ + 1) = some (22, 200) ∧ FR (OB Γ σ v) σ τ ∧ hc τ = hc σ + 4 ∧ hv τ = hv σ + 400) := by
  refine RUN.wf (fun W => eX6_init ⟨hd, fun q2 σ3 hq2 e3 => ?_⟩)
  have vb := W.1 _ _ h0
  have W3 : WF Γ σ3 := by rw [e3, hq2]; exact W.mk
  have c3 : hc σ3 = hc σ + 1 := by rw [e3]; rfl
  have h3 : hs σ3 v = some (5, 10) := by rw [e3]; exact (hs_mk_n _ _ _ (by omega)).trans h0
  refine ⟨h3, fun σ6 e6 q10 σ11 hq10 e11 => ?_⟩
  have c6 : hc σ6 = hc σ + 1 := by rw [e6]; exact c3
  have W6 : WF Γ σ6 := by rw [e6]; exact W3.upd h3 (by decide) rfl rfl (fun _ _ => rfl)
  have W11 : WF Γ σ11 := by rw [e11, hq10]; exact W6.mk
  have c11 : hc σ11 = hc σ + 2 := by rw [e11]; show hc σ6 + 1 = _; omega
  have h11 : hs σ11 v = some (5, 10) := by rw [e11]; exact (hs_mk_n _ _ _ (by omega)).trans (by rw [e6]; exact h3)
  refine ⟨h11, fun σ14 e14 σ18 e18 q22 σ23 hq22 e23 => ?_⟩
  have c18 : hc σ18 = hc σ + 2 := by rw [e18, e14]; exact c11
  have hs18 : hs σ18 = hs σ11 := by rw [e18, e14]; rfl
  have W18 : WF Γ σ18 := W11.upd h11 (by decide) (by rw [e18, e14]; rfl) hs18 (fun _ _ => by rw [e18, e14]; rfl)
  have W23 : WF Γ σ23 := by rw [e23, hq22]; exact W18.mk
  have c23 : hc σ23 = hc σ + 3 := by rw [e23]; show hc σ18 + 1 = _; omega
  have h23 : hs σ23 v = some (5, 10) := by rw [e23]; exact (hs_mk_n _ _ _ (by omega)).trans (by rw [hs18]; exact h11)
  refine ⟨h23, fun σ26 e26 σ30 e30 q34 σ35 hq34 e35 => ?_⟩
  have c30 : hc σ30 = hc σ + 3 := by rw [e30, e26]; exact c23
  have hs30 : hs σ30 = hs σ23 := by rw [e30, e26]; rfl
  have W30 : WF Γ σ30 := W23.upd h23 (by decide) (by rw [e30, e26]; rfl) hs30 (fun _ _ => by rw [e30, e26]; rfl)
  have h35 : hs σ35 v = some (5, 10) := by rw [e35]; exact (hs_mk_n _ _ _ (by omega)).trans (by rw [hs30]; exact h23)
  refine ⟨h35, fun σ38 e38 σ42 e42 σ46 e46 σ50 e50 σ54 e54 => ?_⟩
  have hs54 : hs σ54 = hs σ35 := by rw [e54, e50, e46, e42, e38]; rfl
  have a10 : q10 = lo Γ + hc σ + 1 := by rw [hq10, c6]; rfl
  have g6 : gr σ6 v = up (gr σ3 v) 0 (some q2) := by rw [e6]; exact gR_s _ _ _ _
  have g11 : gr σ11 v = gr σ6 v := by rw [e11]; exact gM_n _ _ _ (by omega)
  have g14 : gr σ14 v = up (gr σ11 v) 1 (some q10) := by rw [e14]; exact gR_s _ _ _ _
  have g23 : gr σ23 v = gr σ14 v := by rw [e23]; exact (gM_n _ _ _ (by omega)).trans (by rw [e18]; rfl)
  have g26 : gr σ26 v = up (gr σ23 v) 3 (some q22) := by rw [e26]; exact gR_s _ _ _ _
  have g35 : gr σ35 v = gr σ26 v := by rw [e35]; exact (gM_n _ _ _ (by omega)).trans (by rw [e30]; rfl)
  have g38 : gr σ38 v = up (gr σ35 v) 5 (some q34) := by rw [e38]; exact gR_s _ _ _ _
  have gv : gr σ54 v = up (up (up (up (gr σ3 v) 0 (some q2)) 1 (some q10)) 3 (some q22)) 5 (some q34) := by
    have : gr σ54 v = gr σ38 v := by rw [e54, e50, e46, e42]; rfl
    rw [this, g38, g35, g26, g23, g14, g11, g6]
  have F54 : FR (OB Γ σ v) σ σ54 := by
    have F3 : FR (OB Γ σ v) σ σ3 := by rw [e3, hq2]; exact FR.mk 22 200 W (Or.inr (Nat.le_refl _))
    have F6 : FR (OB Γ σ v) σ3 σ6 := by rw [e6]; exact FR.setR (P := OB Γ σ v) _ _ _ (Or.inl rfl)
    have F11 : FR (OB Γ σ v) σ6 σ11 := by rw [e11, hq10]; exact FR.mk 22 200 W6 (Or.inr (by omega))
    have F18 : FR (OB Γ σ v) σ11 σ18 := by rw [e18, e14]; exact (FR.setR (P := OB Γ σ v) _ _ _ (Or.inl rfl)).trans (FR.setI (P := OB Γ σ v) _ _ _ (Or.inl rfl))
    have F23 : FR (OB Γ σ v) σ18 σ23 := by rw [e23, hq22]; exact FR.mk 20 0 W18 (Or.inr (by omega))
    have F30 : FR (OB Γ σ v) σ23 σ30 := by rw [e30, e26]; exact (FR.setR (P := OB Γ σ v) _ _ _ (Or.inl rfl)).trans (FR.setI (P := OB Γ σ v) _ _ _ (Or.inl rfl))
    have F35 : FR (OB Γ σ v) σ30 σ35 := by rw [e35, hq34]; exact FR.mk 25 0 W30 (Or.inr (by omega))
    have F54 : FR (OB Γ σ v) σ35 σ54 := by
      rw [e54, e50, e46, e42, e38]
      exact ((((FR.setR (P := OB Γ σ v) _ _ _ (Or.inl rfl)).trans (FR.setI (P := OB Γ σ v) _ _ _ (Or.inl rfl))).trans (FR.setI (P := OB Γ σ v) _ _ _ (Or.inl rfl))).trans (FR.setI (P := OB Γ σ v) _ _ _ (Or.inl rfl))).trans (FR.setI (P := OB Γ σ v) _ _ _ (Or.inl rfl))
    exact ((((((F3.trans F6).trans F11).trans F18).trans F23).trans F30).trans F35).trans F54
  have s3 : hs σ3 q2 = some (22, 200) := by rw [e3]; exact hs_mk_s _ _ _ _
  have s11 : hs σ11 q2 = some (22, 200) := by rw [e11, hs_mk_n _ _ _ (by omega), e6]; exact s3
  have s11' : hs σ11 q10 = some (22, 200) := by rw [e11]; exact hs_mk_s _ _ _ _
  have s23 : ∀ a x, a < q22 → hs σ11 a = some x → hs σ23 a = some x := fun a x ha h => by rw [e23, hs_mk_n _ _ _ (by omega), hs18]; exact h
  have s35 : ∀ a x, a < q34 → hs σ23 a = some x → hs σ54 a = some x := fun a x ha h => by rw [hs54, e35, hs_mk_n _ _ _ (by omega), hs30]; exact h
  refine ⟨rfl, (congrFun gv 0).trans ?_, (congrFun gv 1).trans ?_, ?_, ?_, F54, ?_, ?_⟩
  · rw [← hq2]; rfl
  · rw [← a10]; rfl
  · rw [← hq2]; exact s35 _ _ (by omega) (s23 _ _ (by omega) s11)
  · rw [← a10]; exact s35 _ _ (by omega) (s23 _ _ (by omega) s11')
  · rw [e54, e50, e46, e42, e38, e35]; show hc σ30 + 1 = _; omega
  · rw [e54, e50, e46, e42, e38, e35, e30, e26, e23, e18, e14, e11, e6, e3]; rfl
theorem ini3_R {v v1 : Nat} (h0 : hs σ v = some (3, 8)) (hp : hs σ v1 = some (22, 4096)) (K : Nat → Nat × Nat × Nat) (hd : 1 ≤ d) : RV Γ d MX3_init [.ref v, .ref v1] σ (fun τ => DV τ v v1 (lo Γ + hc σ) (lo Γ + hc σ + 1) (lo Γ + hc σ + 2) (lo Γ + hc σ + 3) 6 2 K (fun i => if i = 0 then zf else onef) (fun _ => 0) 0 ∧ FR (OB Γ σ v) σ τ ∧ hc τ = hc σ + 4 ∧ hv τ = hv σ + 320) := by
  refine RUN.wf (fun W => eX3_init ⟨hd, fun q2 σ3 hq2 e3 => ?_⟩)
  have vb := W.1 _ _ h0
  have pb := W.1 _ _ hp
  have W3 : WF Γ σ3 := by rw [e3, hq2]; exact W.mk
  have c3 : hc σ3 = hc σ + 1 := by rw [e3]; rfl
  have h3 : hs σ3 v = some (3, 8) := by rw [e3]; exact (hs_mk_n _ _ _ (by omega)).trans h0
  refine ⟨h3, fun σ6 e6 q10 σ11 hq10 e11 => ?_⟩
  have c6 : hc σ6 = hc σ + 1 := by rw [e6]; exact c3
  have W6 : WF Γ σ6 := by rw [e6]; exact W3.upd h3 (by decide) rfl rfl (fun _ _ => rfl)
  have W11 : WF Γ σ11 := by rw [e11, hq10]; exact W6.mk
  have c11 : hc σ11 = hc σ + 2 := by rw [e11]; show hc σ6 + 1 = _; omega
  have h11 : hs σ11 v = some (3, 8) := by rw [e11]; exact (hs_mk_n _ _ _ (by omega)).trans (by rw [e6]; exact h3)
  refine ⟨h11, fun σ14 e14 q18 σ19 hq18 e19 => ?_⟩
  have c14 : hc σ14 = hc σ + 2 := by rw [e14]; exact c11
  have W14 : WF Γ σ14 := by rw [e14]; exact W11.upd h11 (by decide) rfl rfl (fun _ _ => rfl)
  have W19 : WF Γ σ19 := by rw [e19, hq18]; exact W14.mk
  have c19 : hc σ19 = hc σ + 3 := by rw [e19]; show hc σ14 + 1 = _; omega
  have h19 : hs σ19 v = some (3, 8) := by rw [e19]; exact (hs_mk_n _ _ _ (by omega)).trans (by rw [e14]; exact h11)
  refine ⟨h19, fun σ22 e22 q26 σ27 hq26 e27 => ?_⟩
  have c22 : hc σ22 = hc σ + 3 := by rw [e22]; exact c19
  have W22 : WF Γ σ22 := by rw [e22]; exact W19.upd h19 (by decide) rfl rfl (fun _ _ => rfl)
  have h27 : hs σ27 v = some (3, 8) := by rw [e27]; exact (hs_mk_n _ _ _ (by omega)).trans (by rw [e22]; exact h19)
  refine ⟨h27, fun σ30 e30 σ34 e34 σ38 e38 σ42 e42 σ46 e46 => ?_⟩
  have a2 : q2 = lo Γ + hc σ := hq2
  have a10 : q10 = lo Γ + hc σ + 1 := by rw [hq10, c6]; rfl
  have a18 : q18 = lo Γ + hc σ + 2 := by rw [hq18, c14]; rfl
  have a26 : q26 = lo Γ + hc σ + 3 := by rw [hq26, c22]; rfl
  have g6 : gr σ6 v = up (gr σ3 v) 1 (some q2) := by rw [e6]; exact gR_s _ _ _ _
  have g11 : gr σ11 v = gr σ6 v := by rw [e11]; exact gM_n _ _ _ (by omega)
  have g14 : gr σ14 v = up (gr σ11 v) 2 (some q10) := by rw [e14]; exact gR_s _ _ _ _
  have g19 : gr σ19 v = gr σ14 v := by rw [e19]; exact gM_n _ _ _ (by omega)
  have g22 : gr σ22 v = up (gr σ19 v) 3 (some q18) := by rw [e22]; exact gR_s _ _ _ _
  have g27 : gr σ27 v = gr σ22 v := by rw [e27]; exact gM_n _ _ _ (by omega)
  have g30 : gr σ30 v = up (gr σ27 v) 4 (some q26) := by rw [e30]; exact gR_s _ _ _ _
  have gv : gr σ46 v = up (up (up (up (up (gr σ3 v) 1 (some q2)) 2 (some q10)) 3 (some q18)) 4 (some q26)) 0 (some v1) := by
    rw [e46, gR_s]
    have : gr σ42 v = gr σ30 v := by rw [e42, e38, e34]; rfl
    rw [this, g30, g27, g22, g19, g14, g11, g6]
  have i34 : gi σ34 v = up (gi σ30 v) 5 2 := by rw [e34]; exact gi_setI_s _ _ _ _
  have i38 : gi σ38 v = up (gi σ34 v) 6 0 := by rw [e38]; exact gi_setI_s _ _ _ _
  have i42 : gi σ42 v = up (gi σ38 v) 7 0 := by rw [e42]; exact gi_setI_s _ _ _ _
  have iv : gi σ46 v = up (up (up (gi σ30 v) 5 2) 6 0) 7 0 := by
    have : gi σ46 v = gi σ42 v := by rw [e46]; rfl
    rw [this, i42, i38, i34]
  have hs46 : hs σ46 = hs σ27 := by rw [e46, e42, e38, e34, e30]; rfl
  have hs22 : hs σ22 = hs σ19 := by rw [e22]; rfl
  have hs14 : hs σ14 = hs σ11 := by rw [e14]; rfl
  have hs6 : hs σ6 = hs σ3 := by rw [e6]; rfl
  have up27 : ∀ a, a < q26 → hs σ46 a = hs σ19 a := fun a ha => by rw [hs46, e27, hs_mk_n _ _ _ (by omega), hs22]
  have up19 : ∀ a, a < q18 → hs σ19 a = hs σ11 a := fun a ha => by rw [e19, hs_mk_n _ _ _ (by omega), hs14]
  have up11 : ∀ a, a < q10 → hs σ11 a = hs σ3 a := fun a ha => by rw [e11, hs_mk_n _ _ _ (by omega), hs6]
  have s2 : hs σ46 q2 = some (23, 64) := by rw [up27 _ (by omega), up19 _ (by omega), up11 _ (by omega), e3]; exact hs_mk_s _ _ _ _
  have s10 : hs σ46 q10 = some (22, 64) := by rw [up27 _ (by omega), up19 _ (by omega), e11]; exact hs_mk_s _ _ _ _
  have s18 : hs σ46 q18 = some (22, 64) := by rw [up27 _ (by omega), e19]; exact hs_mk_s _ _ _ _
  have s26 : hs σ46 q26 = some (22, 128) := by rw [hs46, e27]; exact hs_mk_s _ _ _ _
  have sp : hs σ46 v1 = some (22, 4096) := by rw [up27 _ (by omega), up19 _ (by omega), up11 _ (by omega), e3, hs_mk_n _ _ _ (by omega)]; exact hp
  have gi46 : ∀ a, a ≠ v → gi σ46 a = gi σ27 a := fun a ha => by rw [e46, show gi (setR σ42 v 0 (some v1)) a = gi σ42 a from rfl, e42, gi_setI_n _ _ _ ha, e38, gi_setI_n _ _ _ ha, e34, gi_setI_n _ _ _ ha, e30]; rfl
  have gi22 : gi σ22 = gi σ19 := by rw [e22]; rfl
  have gi14 : gi σ14 = gi σ11 := by rw [e14]; rfl
  have z10 : gi σ46 q10 = fun _ => 0 := by rw [gi46 _ (by omega), e27, gi_mk_n _ _ _ (by omega), gi22, e19, gi_mk_n _ _ _ (by omega), gi14, e11]; exact gi_mk_s _ _ _ _
  have z18 : gi σ46 q18 = fun _ => 0 := by rw [gi46 _ (by omega), e27, gi_mk_n _ _ _ (by omega), gi22, e19]; exact gi_mk_s _ _ _ _
  have z26 : gi σ46 q26 = fun _ => 0 := by rw [gi46 _ (by omega), e27]; exact gi_mk_s _ _ _ _
  refine ⟨rfl, ?_, ?_, ?_, ?_⟩
  · rw [← a26, ← a18, ← a10, ← a2]
    refine ⟨?_, fun i h1 h2 => absurd h2 (by omega), NT.start K, ?_, fun i h1 h2 => absurd h2 (by omega), fun _ _ => rfl, fun i h1 h2 => absurd h2 (by omega), ?_⟩
    · unfold DG
      rw [gv, iv, z10, z18, z26]
      exact ⟨by rw [hs46]; exact h27, rfl, rfl, rfl, rfl, rfl, sp, s2, s10, s18, s26, by omega, by omega, by omega, by omega, by omega, by omega, rfl, by omega, by decide, ⟨by omega, Or.inl rfl⟩, by omega, HT.empty _ _ _ (fun _ _ => rfl), fun _ _ _ => ⟨rfl, rfl⟩, fun i j h1 h2 => absurd h2 (by omega)⟩
    · rw [iv]; rfl
    · rw [iv, ctp_none (fun x hx h => by omega)]; rfl
  · have F3 : FR (OB Γ σ v) σ σ3 := by rw [e3, hq2]; exact FR.mk 23 64 W (Or.inr (Nat.le_refl _))
    have F6 : FR (OB Γ σ v) σ3 σ6 := by rw [e6]; exact FR.setR (P := OB Γ σ v) _ _ _ (Or.inl rfl)
    have F11 : FR (OB Γ σ v) σ6 σ11 := by rw [e11, hq10]; exact FR.mk 22 64 W6 (Or.inr (by omega))
    have F14 : FR (OB Γ σ v) σ11 σ14 := by rw [e14]; exact FR.setR (P := OB Γ σ v) _ _ _ (Or.inl rfl)
    have F19 : FR (OB Γ σ v) σ14 σ19 := by rw [e19, hq18]; exact FR.mk 22 64 W14 (Or.inr (by omega))
    have F22 : FR (OB Γ σ v) σ19 σ22 := by rw [e22]; exact FR.setR (P := OB Γ σ v) _ _ _ (Or.inl rfl)
    have F27 : FR (OB Γ σ v) σ22 σ27 := by rw [e27, hq26]; exact FR.mk 22 128 W22 (Or.inr (by omega))
    have F46 : FR (OB Γ σ v) σ27 σ46 := by
      rw [e46, e42, e38, e34, e30]
      exact ((((FR.setR (P := OB Γ σ v) _ _ _ (Or.inl rfl)).trans (FR.setI (P := OB Γ σ v) _ _ _ (Or.inl rfl))).trans (FR.setI (P := OB Γ σ v) _ _ _ (Or.inl rfl))).trans (FR.setI (P := OB Γ σ v) _ _ _ (Or.inl rfl))).trans (FR.setR (P := OB Γ σ v) _ _ _ (Or.inl rfl))
    exact ((((((F3.trans F6).trans F11).trans F14).trans F19).trans F22).trans F27).trans F46
  · rw [e46, e42, e38, e34, e30, e27]; show hc σ22 + 1 = _; omega
  · rw [e46, e42, e38, e34, e30, e27, e22, e19, e14, e11, e6, e3]; rfl
end INI

