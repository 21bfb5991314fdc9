/-! ROWS of FamilyStore: its constructor, whole. -/
section IN9
variable {Γ : Gm} {d : Nat} {σ : AH}
theorem nx1 {v k n : Nat} {x : Nat × Nat} (W : WF Γ σ) (h : hs σ v = some x) : WF Γ (mk σ (lo Γ + hc σ) k n) ∧ hs (mk σ (lo Γ + hc σ) k n) v = some x := ⟨W.mk, (FR.mk (P := fun _ => True) k n W trivial).gh h⟩
theorem sR1 {v i : Nat} {x : Option Nat} (p : WF Γ σ ∧ hs σ v = some (6, 17)) : WF Γ (setR σ v i x) ∧ hs (setR σ v i x) v = some (6, 17) := ⟨p.1.upd p.2 (by decide) rfl rfl (fun _ _ => rfl), p.2⟩
theorem sI1 {v i : Nat} {x : Int32} (p : WF Γ σ ∧ hs σ v = some (6, 17)) : WF Γ (setI σ v i x) ∧ hs (setI σ v i x) v = some (6, 17) := ⟨p.1.upd p.2 (by decide) rfl rfl (fun _ _ => rfl), p.2⟩
theorem ini8_R {v : Nat} {own0 : Nat → Nat} (h0 : hs σ v = some (6, 17)) (hd : 3 ≤ d) : RV Γ d MX8_init [.ref v] σ (fun τ => ∃ w, w ≤ 43 ∧ RepC Γ τ (ownC own0 v (lo Γ + hc σ)) (adC v (lo Γ + hc σ)) stS 6 w ∧ FR (OB Γ σ v) σ τ ∧ hc τ = hc σ + 25 ∧ hv τ = hv σ + 10950) := by
  refine RUN.wf (fun W => eX8_init ⟨by omega, fun q2 σ3 hq2 e3 => ?_⟩)
  have vb := W.1 _ _ h0
  have p3 : WF Γ σ3 ∧ hs σ3 v = some (6, 17) := by rw [e3, hq2]; exact nx1 W h0
  refine ⟨p3.2, fun σ6 e6 σ10 e10 σ14 e14 q18 σ19 hq18 e19 => ?_⟩
  have p14 : WF Γ σ14 ∧ hs σ14 v = some (6, 17) := by rw [e14, e10, e6]; exact sI1 (sI1 (sR1 p3))
  have p19 : WF Γ σ19 ∧ hs σ19 v = some (6, 17) := by rw [e19, hq18]; exact nx1 p14.1 p14.2
  refine ⟨p19.2, fun σ22 e22 σ26 e26 q30 σ31 hq30 e31 => ?_⟩
  have p26 : WF Γ σ26 ∧ hs σ26 v = some (6, 17) := by rw [e26, e22]; exact sI1 (sR1 p19)
  have p31 : WF Γ σ31 ∧ hs σ31 v = some (6, 17) := by rw [e31, hq30]; exact nx1 p26.1 p26.2
  refine ⟨p31.2, fun σ34 e34 σ38 e38 σ42 e42 q46 σ47 hq46 e47 => ?_⟩
  have p42 : WF Γ σ42 ∧ hs σ42 v = some (6, 17) := by rw [e42, e38, e34]; exact sI1 (sI1 (sR1 p31))
  have p47 : WF Γ σ47 ∧ hs σ47 v = some (6, 17) := by rw [e47, hq46]; exact nx1 p42.1 p42.2
  refine ⟨p47.2, fun σ50 e50 q54 σ55 hq54 e55 => ?_⟩
  have p50 : WF Γ σ50 ∧ hs σ50 v = some (6, 17) := by rw [e50]; exact sR1 p47
  have p55 : WF Γ σ55 ∧ hs σ55 v = some (6, 17) := by rw [e55, hq54]; exact nx1 p50.1 p50.2
  refine ⟨p55.2, fun σ58 e58 q62 σ63 hq62 e63 => ?_⟩
  obtain ⟨b, hb⟩ : ∃ b, lo Γ + hc σ = b := ⟨_, rfl⟩
  obtain ⟨-, ⟨a46, a54, a62⟩, W63, c63, h63, s63, g63, i63, ⟨t1, t2, t3, t4, t5⟩, n3, F63, k63, v63⟩ := iniA W h0 hb (by omega) hq2 e3 e6 e10 e14 hq18 e19 e22 e26 hq30 e31 e34 e38 e42 hq46 e47 e50 hq54 e55 e58 hq62 e63
  clear e3 e6 e10 e14 hq18 e19 e22 e26 hq30 e31 e34 e38 e42 hq46 e47 e50 hq54 e55 e58 hq62 e63 p3 p14 p19 p26 p31 p42 p47 p50 p55 hq2
  subst a46
  subst a54
  subst a62
  have vb' : v < b := by omega
  clear vb
  refine ⟨h63, b + 3, by rw [g63]; rfl, b + 4, by rw [g63]; rfl, CV.of (d2 := 1) (ini0_R s63 (by omega)) (by omega) (fun σ70 W70 y => ?_)⟩
  obtain ⟨p0, p1, p2, p3, p4, p5, F70, p6, p7⟩ := y
  rw [c63] at p2 p3 p4 p5
  have F70 := ob_fr F70 rfl c63
  have c70 : lo Γ + hc σ70 = b + 8 := by omega
  have h70 : hs σ70 v = some (6, 17) := F70.gh h63
  have g70 : gr σ70 v = grA (gr σ v) b := by rw [F70.gr (by omega)]; exact g63
  have i70 : gi σ70 v = igA (gi σ v) := by rw [F70.gi (by omega)]; exact i63
  refine ⟨h70, fun σ73 e73 q76 σ77 hq76 e77 => ?_⟩
  obtain ⟨a76, W77, c77, h77, s77, g77, i77, F77, v77, -, k77⟩ := stg W70 h70 c70 (by omega) e73 hq76 e77
  subst a76
  clear e73 hq76 e77
  refine ⟨h77, b + 3, by rw [g77, g70]; rfl, CV.of (d2 := 1) (ini3_R s77 (F77.gh (F70.gh t4)) (fun _ => (0, 0, 0)) (by omega)) (by omega) (fun σ82 W82 y => ?_)⟩
  obtain ⟨V, F82, p8, p9⟩ := y
  have c77 : lo Γ + hc σ77 = b + 9 := c77
  rw [c77] at V
  have F82 := ob_fr F82 rfl c77
  have c82 : lo Γ + hc σ82 = b + 13 := by omega
  have h82 : hs σ82 v = some (6, 17) := F82.gh h77
  have g82 : gr σ82 v = up (grA (gr σ v) b) 10 (some (b + 5)) := by rw [F82.gr (by omega), g77, g70]
  have i82 : gi σ82 v = igA (gi σ v) := by rw [F82.gi (by omega), i77, i70]
  refine ⟨h82, fun σ85 e85 q88 σ89 hq88 e89 => ?_⟩
  obtain ⟨a88, W89, c89, h89, s89, g89, i89, F89, v89, -, k89⟩ := stg W82 h82 c82 (by omega) e85 hq88 e89
  subst a88
  clear e85 hq88 e89
  refine CV.of (d2 := 1) (ini6_R s89 (by omega)) (by omega) (fun σ91 W91 y => ?_)
  obtain ⟨r0, r1, r2, r3, F91, r4, r5⟩ := y
  have c89 : lo Γ + hc σ89 = b + 14 := c89
  rw [c89] at r0 r1 r2 r3
  have F91 := ob_fr F91 rfl c89
  have c91 : lo Γ + hc σ91 = b + 18 := by omega
  have h91 : hs σ91 v = some (6, 17) := F91.gh h89
  have g91 : gr σ91 v = up (up (grA (gr σ v) b) 10 (some (b + 5))) 11 (some (b + 8)) := by rw [F91.gr (by omega), g89, g82]
  have i91 : gi σ91 v = igA (gi σ v) := by rw [F91.gi (by omega), i89, i82]
  refine ⟨h91, fun σ94 e94 q97 σ98 hq97 e98 => ?_⟩
  obtain ⟨a97, W98, c98, h98, s98, g98, i98, F98, v98, -, k98⟩ := stg W91 h91 c91 (by omega) e94 hq97 e98
  subst a97
  clear e94 hq97 e98
  refine CV.of (d2 := 1) (ini1_R s98 (by omega)) (by omega) (fun σ100 W100 y => ?_)
  obtain ⟨u0, u1, u2, u3, F100, u4, u5⟩ := y
  have c98 : lo Γ + hc σ98 = b + 19 := c98
  rw [c98] at u0 u2 u3
  have F100 := ob_fr F100 rfl c98
  have c100 : lo Γ + hc σ100 = b + 20 := by omega
  have h100 : hs σ100 v = some (6, 17) := F100.gh h98
  have g100 : gr σ100 v = up (up (up (grA (gr σ v) b) 10 (some (b + 5))) 11 (some (b + 8))) 12 (some (b + 13)) := by rw [F100.gr (by omega), g98, g91]
  have i100 : gi σ100 v = igA (gi σ v) := by rw [F100.gi (by omega), i98, i91]
  refine ⟨h100, fun σ103 e103 q106 σ107 hq106 e107 => ?_⟩
  obtain ⟨a106, W107, c107, h107, s107, g107, i107, F107, v107, -, k107⟩ := stg W100 h100 c100 (by omega) e103 hq106 e107
  subst a106
  clear e103 hq106 e107
  refine CV.of (d2 := 1) (ini2_R s107 (by omega)) (by omega) (fun σ109 W109 y => ?_)
  obtain ⟨CO, F109, x4, x5⟩ := y
  have c107 : lo Γ + hc σ107 = b + 21 := c107
  rw [c107] at CO
  have F109 := ob_fr F109 rfl c107
  have c109 : lo Γ + hc σ109 = b + 24 := by omega
  have h109 : hs σ109 v = some (6, 17) := F109.gh h107
  have g109 : gr σ109 v = up (up (up (up (grA (gr σ v) b) 10 (some (b + 5))) 11 (some (b + 8))) 12 (some (b + 13))) 13 (some (b + 18)) := by rw [F109.gr (by omega), g107, g100]
  have i109 : gi σ109 v = igA (gi σ v) := by rw [F109.gi (by omega), i107, i100]
  refine ⟨h109, fun σ112 e112 q115 σ116 hq115 e116 => ?_⟩
  obtain ⟨a115, W116, c116, h116, s116, g116, i116, F116, v116, -, k116⟩ := stg W109 h109 c109 (by omega) e112 hq115 e116
  subst a115
  clear e112 hq115 e116
  refine ⟨h116, fun σ119 e119 σ123 e123 => ?_⟩
  have F123 : FR (fun a => a = v ∨ b + 24 ≤ a) σ116 σ123 := by rw [e123, e119]; exact (FR.setR (P := fun a => a = v ∨ b + 24 ≤ a) _ _ _ (Or.inl rfl)).trans (FR.setI (P := fun a => a = v ∨ b + 24 ≤ a) _ _ _ (Or.inl rfl))
  have gv : gr σ123 v = up (up (up (up (up (up (grA (gr σ v) b) 10 (some (b + 5))) 11 (some (b + 8))) 12 (some (b + 13))) 13 (some (b + 18))) 14 (some (b + 20))) 15 (some (b + 24)) := by
    have : gr σ123 v = gr σ119 v := by rw [e123]; rfl
    rw [this, e119, gR_s, g116, g109]
  have iv : gi σ123 v = up (igA (gi σ v)) 16 0 := by
    rw [e123, gi_setI_s, show gi σ119 v = gi σ116 v by rw [e119]; rfl, i116, i109]
  have kE : hc σ123 = hc σ116 := by rw [e123, e119]; rfl
  have vE : hv σ123 = hv σ116 := by rw [e123, e119]; rfl
  clear e119 e123
  have T109 : FR (fun a => a = v ∨ b + 24 ≤ a) σ109 σ123 := F116.trans F123
  have T100 : FR (fun a => a = v ∨ b + 20 ≤ a) σ100 σ123 := (F107.trans (r_fr F109)).trans (ge_fr T109 (by decide))
  have T91 : FR (fun a => a = v ∨ b + 18 ≤ a) σ91 σ123 := (F98.trans (r_fr F100)).trans (ge_fr T100 (by decide))
  have T82 : FR (fun a => a = v ∨ b + 13 ≤ a) σ82 σ123 := (F89.trans (r_fr F91)).trans (ge_fr T91 (by decide))
  have T70 : FR (fun a => a = v ∨ b + 8 ≤ a) σ70 σ123 := (F77.trans (r_fr F82)).trans (ge_fr T82 (by decide))
  have T63 : FR (fun a => a = v ∨ b + 5 ≤ a) σ63 σ123 := (r_fr F70).trans (ge_fr T70 (by decide))
  have T0 : FR (OB Γ σ v) σ σ123 := (F63.trans (ge_fr (j := 0) T63 (by decide))).mono (fun a h => by
    rcases h with z | z
    · exact Or.inl z
    · exact Or.inr (by omega))
  rw [hb]
  refine ⟨rfl, nnr σ123 (b + 19), ctp_le _ _, ?_, T0, by omega, by omega⟩
  refine RepC_start vb' (by omega) (F123.gh h116) gv iv (T63.gh t1) (T63.gh t2) (T63.gh t3) (by rw [T63.gr (by omega)]; exact n3) (F123.gh s116) (K := fun _ => (0, 0, 0)) ?_ ?_ ?_ ?_ ?_
  · have e : gr σ123 (b + 5) = gr σ70 (b + 5) := T70.gr (by omega)
    exact ⟨T70.gh (F70.gh s63), by rw [e]; exact p0, by rw [e]; exact p1, by rw [e]; exact p2, by rw [e]; exact p3, T63.gh t4, T63.gh t5, T70.gh p4, T70.gh p5, by omega, by omega⟩
  · exact V.fr T82 (by omega) (by omega) (by omega) (by omega) (by omega)
  · have e : gr σ123 (b + 13) = gr σ91 (b + 13) := T91.gr (by omega)
    exact ⟨T91.gh (F91.gh s89), by rw [e]; exact r0, by rw [e]; exact r1, T91.gh r2, T91.gh r3⟩
  · have e : gr σ123 (b + 18) = gr σ100 (b + 18) := T100.gr (by omega)
    exact ⟨T100.gh (F100.gh s98), by rw [e]; exact u0, T100.gh u2, by rw [T100.gr (by omega)]; exact u3⟩
  · exact CO.fr T109 (by omega) (by omega) (by omega) (by omega)
end IN9

