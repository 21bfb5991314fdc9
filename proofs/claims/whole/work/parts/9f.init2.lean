/-! ROWS of FamilyStore: what its constructor leaves. -/
def rolC (k : Nat) : Nat := if k ≤ 8 then k + 2 else if k = 9 then 24 else if k ≤ 12 then k + 11 else if k ≤ 15 then k - 2 else if k ≤ 17 then 0 else k - 4
def ownC (own0 : Nat → Nat) (v b : Nat) : Nat → Nat := fun a => if a = v then 1 else if b ≤ a then rolC (a - b) else own0 a
def adC (v b : Nat) : Nat → Nat := fun i => if i = 0 then v else if i ≤ 9 then b + (i - 1) else if i ≤ 12 then b + i + 3 else b + i + 5
def stS : StT := (fun _ => 0, 0, -1, fun _ => 0, 0, 0, fun _ => false, 0, fun _ => zf, fun _ => 0, fun _ => 0, 0)
theorem ownC_ad {own0 : Nat → Nat} {v b : Nat} (hvb : v < b) {i : Nat} (hi : i < 20) : ownC own0 v b (adC v b i) = i + 1 ∧ adC v b i < b + 25 := by
  unfold adC
  by_cases h0 : i = 0
  · rw [if_pos h0]
    exact ⟨(if_pos rfl).trans (by omega), by omega⟩
  · rw [if_neg h0]
    by_cases h1 : i ≤ 9
    · rw [if_pos h1]
      refine ⟨(if_neg (by omega)).trans ((if_pos (by omega)).trans ?_), by omega⟩
      rw [show b + (i - 1) - b = i - 1 by omega]
      exact (if_pos (by omega)).trans (by omega)
    · rw [if_neg h1]
      by_cases h2 : i ≤ 12
      · rw [if_pos h2]
        refine ⟨(if_neg (by omega)).trans ((if_pos (by omega)).trans ?_), by omega⟩
        rw [show b + i + 3 - b = i + 3 by omega]
        exact (if_neg (by omega)).trans ((if_neg (by omega)).trans ((if_neg (by omega)).trans ((if_pos (by omega)).trans (by omega))))
      · rw [if_neg h2]
        refine ⟨(if_neg (by omega)).trans ((if_pos (by omega)).trans ?_), by omega⟩
        rw [show b + i + 5 - b = i + 5 by omega]
        exact (if_neg (by omega)).trans ((if_neg (by omega)).trans ((if_neg (by omega)).trans ((if_neg (by omega)).trans ((if_neg (by omega)).trans (by omega)))))
theorem ownC_n {own0 : Nat → Nat} {v b k : Nat} (hvb : v < b) : ownC own0 v b (b + k) = rolC k := (if_neg (by omega)).trans ((if_pos (by omega)).trans (by rw [show b + k - b = k by omega]))
theorem RepC_start {Γ : Gm} {τ : AH} {own0 : Nat → Nat} {v b : Nat} {f0 : Nat → Option Nat} {j0 : Nat → Int32} {K : Nat → Nat × Nat × Nat} (vb : v < b) (eb : lo Γ + hc τ = b + 25) (hv0 : hs τ v = some (6, 17))
    (gv : gr τ v = up (up (up (up (up (up (up (up (up (up (up f0 0 (some b)) 3 (some (b + 1))) 5 (some (b + 2))) 8 (some (b + 3))) 9 (some (b + 4))) 10 (some (b + 5))) 11 (some (b + 8))) 12 (some (b + 13))) 13 (some (b + 18))) 14 (some (b + 20))) 15 (some (b + 24)))
    (iv : gi τ v = up (up (up (up (up (up j0 1 0) 2 (-1)) 4 0) 6 0) 7 0) 16 0)
    (s1 : hs τ b = some (20, 200)) (s2 : hs τ (b + 1) = some (20, 1000)) (s3 : hs τ (b + 2) = some (25, 200)) (n3 : gr τ (b + 2) = fun _ => none) (s19 : hs τ (b + 24) = some (22, 300))
    (al : AlgOK τ (b + 5) (b + 3) (b + 4) (b + 6) (b + 7)) (V : DV τ (b + 8) (b + 3) (b + 9) (b + 10) (b + 11) (b + 12) 6 2 K (fun i => if i = 0 then zf else onef) (fun _ => 0) 0)
    (r : hs τ (b + 13) = some (5, 10) ∧ gr τ (b + 13) 0 = some (b + 14) ∧ gr τ (b + 13) 1 = some (b + 15) ∧ hs τ (b + 14) = some (22, 200) ∧ hs τ (b + 15) = some (22, 200))
    (t : hs τ (b + 18) = some (1, 2) ∧ gr τ (b + 18) 0 = some (b + 19) ∧ hs τ (b + 19) = some (26, 43) ∧ gr τ (b + 19) = fun _ => none)
    (co : CostOK τ (b + 20) (b + 21) (b + 22) (b + 23) (fun _ => 0)) : RepC Γ τ (ownC own0 v b) (adC v b) stS 6 (nnr τ (b + 19)) := by
  have ok0 : ∀ f, okv stS f = false := fun f => by
    cases q : okv stS f
    · rfl
    · exact absurd (okf_t.mp q).1 (Nat.not_lt_zero f)
  refine ⟨fun i hi => by rw [eb]; exact ownC_ad vb hi, ?_, ?_, r, co, ⟨t.1, t.2.1, t.2.2.1, fun k q _ hq => ?_⟩, fun f hf => ⟨fun _ => ?_, fun z => ?_⟩, ?_, rfl, ?_⟩
  · exact ⟨hv0, by rw [show adC v b 0 = v from rfl, gv]; rfl, by rw [show adC v b 0 = v from rfl, gv]; rfl, by rw [show adC v b 0 = v from rfl, gv]; rfl, by rw [show adC v b 0 = v from rfl, gv]; rfl, by rw [show adC v b 0 = v from rfl, gv]; rfl, by rw [show adC v b 0 = v from rfl, gv]; rfl, by rw [show adC v b 0 = v from rfl, gv]; rfl, by rw [show adC v b 0 = v from rfl, gv]; rfl, by rw [show adC v b 0 = v from rfl, gv]; rfl, by rw [show adC v b 0 = v from rfl, gv]; rfl, by rw [show adC v b 0 = v from rfl, gv]; rfl, s1, s2, s3, s19, al⟩
  · refine ⟨by rw [show adC v b 0 = v from rfl, iv]; rfl, by rw [show adC v b 0 = v from rfl, iv]; rfl, by rw [show adC v b 0 = v from rfl, iv]; rfl, by rw [show adC v b 0 = v from rfl, iv]; rfl, by rw [show adC v b 0 = v from rfl, iv]; rfl, by rw [show adC v b 0 = v from rfl, iv]; rfl, fun i hi => absurd hi (Nat.not_lt_zero i), fun i hi => absurd hi (Nat.not_lt_zero i), fun i hi => absurd hi (Nat.not_lt_zero i)⟩
  · rw [show adC v b 14 = b + 19 from rfl, t.2.2.2] at hq
    exact absurd hq (by simp)
  · rw [show adC v b 3 = b + 2 from rfl, n3]
  · rw [ok0] at z; exact absurd z (by decide)
  · refine ⟨b + 9, b + 10, b + 11, b + 12, 2, K, _, _, 0, V, ⟨ownC_n vb, ownC_n vb, ownC_n vb, ownC_n vb⟩, fun i h1 h2 => absurd h2 (by omega), fun i => Nat.zero_le _, Nat.zero_le _, ?_, fun f g hf => by rw [ok0] at hf; exact absurd hf (by decide)⟩
    unfold lowc
    rw [ctp_none (fun x hx h => by omega)]
    exact Nat.zero_le _
  · refine ⟨Nat.zero_le _, Nat.zero_le _, Nat.zero_le _, Nat.zero_le _, fun _ _ => rfl, fun f hf => by rw [ok0] at hf; exact absurd hf (by decide), fun e _ => ?_, fun i hi => absurd hi (Nat.not_lt_zero i)⟩
    have : (sK stS e).toInt = 0 := rfl
    omega
section IN8
variable {Γ : Gm} {d : Nat} {σ : AH}
set_option maxHeartbeats 20000000 in
theorem ini8_R {v : Nat} {own0 : Nat → Nat} (h0 : hs σ v = some (6, 17)) (hd : 3 ≤ d) : RV Γ d MX8_init [.ref v] σ (fun τ => ∃ w, w ≤ 43 ∧ RepC Γ τ (ownC own0 v (lo Γ + hc σ)) (adC v (lo Γ + hc σ)) stS 6 w ∧ FR (OB Γ σ v) σ τ ∧ hc τ = hc σ + 25 ∧ hv τ = hv σ + 10950) := by
  refine RUN.wf (fun W => eX8_init ⟨by omega, fun q2 σ3 hq2 e3 => ?_⟩)
  have vb := W.1 _ _ h0
  generalize hb : lo Γ + hc σ = b at *
  have W3 : WF Γ σ3 := by rw [e3, hq2, ← hb]; exact W.mk
  have c3 : lo Γ + hc σ3 = b + 1 := by rw [e3, hc_mk]; omega
  have h3 : hs σ3 v = some (6, 17) := by rw [e3]; exact (hs_mk_n _ _ _ (by omega)).trans h0
  have F3 : FR (fun a => a = v ∨ b ≤ a) σ σ3 := by rw [e3, hq2, ← hb]; exact FR.mk 20 200 W (Or.inr (Nat.le_refl _))
  have s3 : hs σ3 b = some (20, 200) := by rw [e3, hq2]; exact hs_mk_s _ _ _ _
  refine ⟨h3, fun σ6 e6 σ10 e10 σ14 e14 q18 σ19 hq18 e19 => ?_⟩
  have c14 : lo Γ + hc σ14 = b + 1 := by rw [e14, e10, e6]; exact c3
  have hs14 : hs σ14 = hs σ3 := by rw [e14, e10, e6]; rfl
  have W14 : WF Γ σ14 := W3.upd h3 (by decide) (by rw [e14, e10, e6]; rfl) hs14 (fun _ _ => by rw [e14, e10, e6]; rfl)
  have F14 : FR (fun a => a = v) σ3 σ14 := by rw [e14, e10, e6]; exact ((FR.setR (P := fun a => a = v) _ _ _ rfl).trans (FR.setI (P := fun a => a = v) _ _ _ rfl)).trans (FR.setI (P := fun a => a = v) _ _ _ rfl)
  have c19 : lo Γ + hc σ19 = b + 2 := by rw [e19, hc_mk]; omega
  have W19 : WF Γ σ19 := by rw [e19, hq18]; exact W14.mk
  have F19 : FR (fun a => b + 1 ≤ a) σ14 σ19 := by rw [e19, hq18]; exact FR.mk 20 1000 W14 (by omega)
  have h19 : hs σ19 v = some (6, 17) := F19.gh (by rw [hs14]; exact h3)
  have s19 : hs σ19 (b + 1) = some (20, 1000) := by rw [e19, hq18, c14]; exact hs_mk_s _ _ _ _
  refine ⟨h19, fun σ22 e22 σ26 e26 q30 σ31 hq30 e31 => ?_⟩
  have c26 : lo Γ + hc σ26 = b + 2 := by rw [e26, e22]; exact c19
  have hs26 : hs σ26 = hs σ19 := by rw [e26, e22]; rfl
  have W26 : WF Γ σ26 := W19.upd h19 (by decide) (by rw [e26, e22]; rfl) hs26 (fun _ _ => by rw [e26, e22]; rfl)
  have F26 : FR (fun a => a = v) σ19 σ26 := by rw [e26, e22]; exact (FR.setR (P := fun a => a = v) _ _ _ rfl).trans (FR.setI (P := fun a => a = v) _ _ _ rfl)
  have c31 : lo Γ + hc σ31 = b + 3 := by rw [e31, hc_mk]; omega
  have W31 : WF Γ σ31 := by rw [e31, hq30]; exact W26.mk
  have F31 : FR (fun a => b + 2 ≤ a) σ26 σ31 := by rw [e31, hq30]; exact FR.mk 25 200 W26 (by omega)
  have h31 : hs σ31 v = some (6, 17) := F31.gh (F26.gh h19)
  have s31 : hs σ31 (b + 2) = some (25, 200) := by rw [e31, hq30, c26]; exact hs_mk_s _ _ _ _
  have n31 : gr σ31 (b + 2) = fun _ => none := by rw [e31, hq30, c26]; exact gM_s _ _ _ _
  refine ⟨h31, fun σ34 e34 σ38 e38 σ42 e42 q46 σ47 hq46 e47 => ?_⟩
  have c42 : lo Γ + hc σ42 = b + 3 := by rw [e42, e38, e34]; exact c31
  have hs42 : hs σ42 = hs σ31 := by rw [e42, e38, e34]; rfl
  have W42 : WF Γ σ42 := W31.upd h31 (by decide) (by rw [e42, e38, e34]; rfl) hs42 (fun _ _ => by rw [e42, e38, e34]; rfl)
  have F42 : FR (fun a => a = v) σ31 σ42 := by rw [e42, e38, e34]; exact ((FR.setR (P := fun a => a = v) _ _ _ rfl).trans (FR.setI (P := fun a => a = v) _ _ _ rfl)).trans (FR.setI (P := fun a => a = v) _ _ _ rfl)
  have c47 : lo Γ + hc σ47 = b + 4 := by rw [e47, hc_mk]; omega
  have W47 : WF Γ σ47 := by rw [e47, hq46]; exact W42.mk
  have F47 : FR (fun a => b + 3 ≤ a) σ42 σ47 := by rw [e47, hq46]; exact FR.mk 22 4096 W42 (by omega)
  have h47 : hs σ47 v = some (6, 17) := F47.gh (F42.gh h31)
  have s47 : hs σ47 (b + 3) = some (22, 4096) := by rw [e47, hq46, c42]; exact hs_mk_s _ _ _ _
  refine ⟨h47, fun σ50 e50 q54 σ55 hq54 e55 => ?_⟩
  have c50 : lo Γ + hc σ50 = b + 4 := by rw [e50]; exact c47
  have W50 : WF Γ σ50 := by rw [e50]; exact W47.upd h47 (by decide) rfl rfl (fun _ _ => rfl)
  have F50 : FR (fun a => a = v) σ47 σ50 := by rw [e50]; exact FR.setR (P := fun a => a = v) _ _ _ rfl
  have c55 : lo Γ + hc σ55 = b + 5 := by rw [e55, hc_mk]; omega
  have W55 : WF Γ σ55 := by rw [e55, hq54]; exact W50.mk
  have F55 : FR (fun a => b + 4 ≤ a) σ50 σ55 := by rw [e55, hq54]; exact FR.mk 22 4096 W50 (by omega)
  have h55 : hs σ55 v = some (6, 17) := F55.gh (F50.gh h47)
  have s55 : hs σ55 (b + 4) = some (22, 4096) := by rw [e55, hq54, c50]; exact hs_mk_s _ _ _ _
  refine ⟨h55, fun σ58 e58 q62 σ63 hq62 e63 => ?_⟩
  have c58 : lo Γ + hc σ58 = b + 5 := by rw [e58]; exact c55
  have W58 : WF Γ σ58 := by rw [e58]; exact W55.upd h55 (by decide) rfl rfl (fun _ _ => rfl)
  have F58 : FR (fun a => a = v) σ55 σ58 := by rw [e58]; exact FR.setR (P := fun a => a = v) _ _ _ rfl
  have c63 : lo Γ + hc σ63 = b + 6 := by rw [e63, hc_mk]; omega
  have W63 : WF Γ σ63 := by rw [e63, hq62]; exact W58.mk
  have F63 : FR (fun a => b + 5 ≤ a) σ58 σ63 := by rw [e63, hq62]; exact FR.mk 0 4 W58 (by omega)
  have h63 : hs σ63 v = some (6, 17) := F63.gh (F58.gh h55)
  have s63 : hs σ63 q62 = some (0, 4) := by rw [e63]; exact hs_mk_s _ _ _ _
  have a2 := hq2
  have a18 : q18 = b + 1 := by omega
  have a30 : q30 = b + 2 := by omega
  have a46 : q46 = b + 3 := by omega
  have a54 : q54 = b + 4 := by omega
  have a62 : q62 = b + 5 := by omega
  -- fields so far
  have g14 : gr σ14 v = up (gr σ v) 0 (some q2) := by
    have : gr σ14 v = gr σ6 v := by rw [e14, e10]; rfl
    rw [this, e6, gR_s, e3, gM_n _ _ _ (by omega)]
  have i14 : gi σ14 v = up (up (gi σ v) 1 0) 2 (-1) := by
    rw [e14, gi_setI_s, e10, gi_setI_s, show gi σ6 v = gi σ3 v by rw [e6]; rfl, e3, gi_mk_n _ _ _ (by omega)]
  have g26 : gr σ26 v = up (up (gr σ v) 0 (some q2)) 3 (some q18) := by
    have : gr σ26 v = gr σ22 v := by rw [e26]; rfl
    rw [this, e22, gR_s, F19.gr (by omega), g14]
  have i26 : gi σ26 v = up (up (up (gi σ v) 1 0) 2 (-1)) 4 0 := by
    rw [e26, gi_setI_s, show gi σ22 v = gi σ19 v by rw [e22]; rfl, F19.gi (by omega), i14]
  have g42 : gr σ42 v = up (up (up (gr σ v) 0 (some q2)) 3 (some q18)) 5 (some q30) := by
    have : gr σ42 v = gr σ34 v := by rw [e42, e38]; rfl
    rw [this, e34, gR_s, F31.gr (by omega), g26]
  have i42 : gi σ42 v = up (up (up (up (up (gi σ v) 1 0) 2 (-1)) 4 0) 6 0) 7 0 := by
    rw [e42, gi_setI_s, e38, gi_setI_s, show gi σ34 v = gi σ31 v by rw [e34]; rfl, F31.gi (by omega), i26]
  have g50 : gr σ50 v = up (up (up (up (gr σ v) 0 (some q2)) 3 (some q18)) 5 (some q30)) 8 (some q46) := by
    rw [e50, gR_s, F47.gr (by omega), g42]
  have g58 : gr σ58 v = up (up (up (up (up (gr σ v) 0 (some q2)) 3 (some q18)) 5 (some q30)) 8 (some q46)) 9 (some q54) := by
    rw [e58, gR_s, F55.gr (by omega), g50]
  have i63 : gi σ63 v = gi σ42 v := by
    rw [F63.gi (by omega), show gi σ58 v = gi σ55 v by rw [e58]; rfl, F55.gi (by omega), show gi σ50 v = gi σ47 v by rw [e50]; rfl, F47.gi (by omega)]
  have g63 : gr σ63 v = gr σ58 v := F63.gr (by omega)
  refine ⟨h63, q46, by rw [g63, g58]; rfl, q54, by rw [g63, g58]; rfl, CV.of (d2 := 1) (ini0_R s63 (by omega)) (by omega) (fun σ70 W70 y => ?_)⟩
  obtain ⟨p0, p1, p2, p3, p4, p5, F70, p6, p7⟩ := y
  rw [c63] at p2 p3 p4 p5
  have F70 : FR (fun a => b + 5 ≤ a) σ63 σ70 := F70.mono (fun a h => by
    rcases h with z | z
    · omega
    · omega)
  have c70 : lo Γ + hc σ70 = b + 8 := by omega
  have h70 : hs σ70 v = some (6, 17) := F70.gh h63
  refine ⟨h70, fun σ73 e73 q76 σ77 hq76 e77 => ?_⟩
  have c73 : lo Γ + hc σ73 = b + 8 := by rw [e73]; exact c70
  have W73 : WF Γ σ73 := by rw [e73]; exact W70.upd h70 (by decide) rfl rfl (fun _ _ => rfl)
  have F73 : FR (fun a => a = v) σ70 σ73 := by rw [e73]; exact FR.setR (P := fun a => a = v) _ _ _ rfl
  have a76 : q76 = b + 8 := by omega
  have c77 : lo Γ + hc σ77 = b + 9 := by rw [e77, hc_mk]; omega
  have W77 : WF Γ σ77 := by rw [e77, hq76]; exact W73.mk
  have F77 : FR (fun a => b + 8 ≤ a) σ73 σ77 := by rw [e77, hq76]; exact FR.mk 3 8 W73 (by omega)
  have h77 : hs σ77 v = some (6, 17) := F77.gh (F73.gh h70)
  have g73 : gr σ73 v = up (gr σ58 v) 10 (some q62) := by rw [e73, gR_s, F70.gr (by omega), g63]
  have g77 : gr σ77 v = gr σ73 v := F77.gr (by omega)
  have i77 : gi σ77 v = gi σ42 v := by rw [F77.gi (by omega), show gi σ73 v = gi σ70 v by rw [e73]; rfl, F70.gi (by omega), i63]
  have s77 : hs σ77 q76 = some (3, 8) := by rw [e77]; exact hs_mk_s _ _ _ _
  have f77 : hs σ77 q46 = some (22, 4096) := by rw [a46]; exact F77.gh (F73.gh (F70.gh (F63.gh (F58.gh (F55.gh (F50.gh s47))))))
  refine ⟨h77, q46, by rw [g77, g73, g58]; rfl, CV.of (d2 := 1) (ini3_R s77 f77 (fun _ => (0, 0, 0)) (by omega)) (by omega) (fun σ82 W82 y => ?_)⟩
  obtain ⟨V, F82, p8, p9⟩ := y
  rw [c77] at V
  have F82 : FR (fun a => b + 8 ≤ a) σ77 σ82 := F82.mono (fun a h => by
    rcases h with z | z
    · omega
    · omega)
  have c82 : lo Γ + hc σ82 = b + 13 := by omega
  have h82 : hs σ82 v = some (6, 17) := F82.gh h77
  refine ⟨h82, fun σ85 e85 q88 σ89 hq88 e89 => ?_⟩
  have c85 : lo Γ + hc σ85 = b + 13 := by rw [e85]; exact c82
  have W85 : WF Γ σ85 := by rw [e85]; exact W82.upd h82 (by decide) rfl rfl (fun _ _ => rfl)
  have F85 : FR (fun a => a = v) σ82 σ85 := by rw [e85]; exact FR.setR (P := fun a => a = v) _ _ _ rfl
  have a88 : q88 = b + 13 := by omega
  have c89 : lo Γ + hc σ89 = b + 14 := by rw [e89, hc_mk]; omega
  have W89 : WF Γ σ89 := by rw [e89, hq88]; exact W85.mk
  have F89 : FR (fun a => b + 13 ≤ a) σ85 σ89 := by rw [e89, hq88]; exact FR.mk 5 10 W85 (by omega)
  have s89 : hs σ89 q88 = some (5, 10) := by rw [e89]; exact hs_mk_s _ _ _ _
  have g85 : gr σ85 v = up (gr σ73 v) 11 (some q76) := by rw [e85, gR_s, F82.gr (by omega), g77]
  have i89 : gi σ89 v = gi σ42 v := by rw [F89.gi (by omega), show gi σ85 v = gi σ82 v by rw [e85]; rfl, F82.gi (by omega), i77]
  refine CV.of (d2 := 1) (ini6_R s89 (by omega)) (by omega) (fun σ91 W91 y => ?_)
  obtain ⟨r0, r1, r2, r3, F91, r4, r5⟩ := y
  rw [c89] at r0 r1 r2 r3
  have F91 : FR (fun a => b + 13 ≤ a) σ89 σ91 := F91.mono (fun a h => by
    rcases h with z | z
    · omega
    · omega)
  have c91 : lo Γ + hc σ91 = b + 18 := by omega
  have h91 : hs σ91 v = some (6, 17) := F91.gh (F89.gh (F85.gh h82))
  refine ⟨h91, fun σ94 e94 q97 σ98 hq97 e98 => ?_⟩
  have c94 : lo Γ + hc σ94 = b + 18 := by rw [e94]; exact c91
  have W94 : WF Γ σ94 := by rw [e94]; exact W91.upd h91 (by decide) rfl rfl (fun _ _ => rfl)
  have F94 : FR (fun a => a = v) σ91 σ94 := by rw [e94]; exact FR.setR (P := fun a => a = v) _ _ _ rfl
  have a97 : q97 = b + 18 := by omega
  have c98 : lo Γ + hc σ98 = b + 19 := by rw [e98, hc_mk]; omega
  have W98 : WF Γ σ98 := by rw [e98, hq97]; exact W94.mk
  have F98 : FR (fun a => b + 18 ≤ a) σ94 σ98 := by rw [e98, hq97]; exact FR.mk 1 2 W94 (by omega)
  have s98 : hs σ98 q97 = some (1, 2) := by rw [e98]; exact hs_mk_s _ _ _ _
  have g94 : gr σ94 v = up (gr σ85 v) 12 (some q88) := by rw [e94, gR_s, F91.gr (by omega), F89.gr (by omega)]
  have i98 : gi σ98 v = gi σ42 v := by rw [F98.gi (by omega), show gi σ94 v = gi σ91 v by rw [e94]; rfl, F91.gi (by omega), i89]
  refine CV.of (d2 := 1) (ini1_R s98 (by omega)) (by omega) (fun σ100 W100 y => ?_)
  obtain ⟨t0, t1, t2, t3, F100, t4, t5⟩ := y
  rw [c98] at t0 t2 t3
  have F100 : FR (fun a => b + 18 ≤ a) σ98 σ100 := F100.mono (fun a h => by
    rcases h with z | z
    · omega
    · omega)
  have c100 : lo Γ + hc σ100 = b + 20 := by omega
  have h100 : hs σ100 v = some (6, 17) := F100.gh (F98.gh (F94.gh h91))
  refine ⟨h100, fun σ103 e103 q106 σ107 hq106 e107 => ?_⟩
  have c103 : lo Γ + hc σ103 = b + 20 := by rw [e103]; exact c100
  have W103 : WF Γ σ103 := by rw [e103]; exact W100.upd h100 (by decide) rfl rfl (fun _ _ => rfl)
  have F103 : FR (fun a => a = v) σ100 σ103 := by rw [e103]; exact FR.setR (P := fun a => a = v) _ _ _ rfl
  have a106 : q106 = b + 20 := by omega
  have c107 : lo Γ + hc σ107 = b + 21 := by rw [e107, hc_mk]; omega
  have W107 : WF Γ σ107 := by rw [e107, hq106]; exact W103.mk
  have F107 : FR (fun a => b + 20 ≤ a) σ103 σ107 := by rw [e107, hq106]; exact FR.mk 2 3 W103 (by omega)
  have s107 : hs σ107 q106 = some (2, 3) := by rw [e107]; exact hs_mk_s _ _ _ _
  have g103 : gr σ103 v = up (gr σ94 v) 13 (some q97) := by rw [e103, gR_s, F100.gr (by omega), F98.gr (by omega)]
  have i107 : gi σ107 v = gi σ42 v := by rw [F107.gi (by omega), show gi σ103 v = gi σ100 v by rw [e103]; rfl, F100.gi (by omega), i98]
  refine CV.of (d2 := 1) (ini2_R s107 (by omega)) (by omega) (fun σ109 W109 y => ?_)
  obtain ⟨CO, F109, u4, u5⟩ := y
  rw [c107] at CO
  have F109 : FR (fun a => b + 20 ≤ a) σ107 σ109 := F109.mono (fun a h => by
    rcases h with z | z
    · omega
    · omega)
  have c109 : lo Γ + hc σ109 = b + 24 := by omega
  have h109 : hs σ109 v = some (6, 17) := F109.gh (F107.gh (F103.gh h100))
  refine ⟨h109, fun σ112 e112 q115 σ116 hq115 e116 => ?_⟩
  have c112 : lo Γ + hc σ112 = b + 24 := by rw [e112]; exact c109
  have W112 : WF Γ σ112 := by rw [e112]; exact W109.upd h109 (by decide) rfl rfl (fun _ _ => rfl)
  have F112 : FR (fun a => a = v) σ109 σ112 := by rw [e112]; exact FR.setR (P := fun a => a = v) _ _ _ rfl
  have a115 : q115 = b + 24 := by omega
  have F116 : FR (fun a => b + 24 ≤ a) σ112 σ116 := by rw [e116, hq115]; exact FR.mk 22 300 W112 (by omega)
  have s116 : hs σ116 (b + 24) = some (22, 300) := by rw [e116, a115]; exact hs_mk_s _ _ _ _
  have h116 : hs σ116 v = some (6, 17) := F116.gh (F112.gh h109)
  refine ⟨h116, fun σ119 e119 σ123 e123 => ?_⟩
  have F123 : FR (fun a => a = v) σ116 σ123 := by rw [e123, e119]; exact (FR.setR (P := fun a => a = v) _ _ _ rfl).trans (FR.setI (P := fun a => a = v) _ _ _ rfl)
  have g112 : gr σ112 v = up (gr σ103 v) 14 (some q106) := by rw [e112, gR_s, F109.gr (by omega), F107.gr (by omega)]
  have g123 : gr σ123 v = up (gr σ112 v) 15 (some q115) := by
    have : gr σ123 v = gr σ119 v := by rw [e123]; rfl
    rw [this, e119, gR_s, F116.gr (by omega)]
  have i123 : gi σ123 v = up (gi σ42 v) 16 0 := by
    rw [e123, gi_setI_s, show gi σ119 v = gi σ116 v by rw [e119]; rfl, F116.gi (by omega), show gi σ112 v = gi σ109 v by rw [e112]; rfl, F109.gi (by omega), i107]
  have gv : gr σ123 v = up (up (up (up (up (up (up (up (up (up (up (gr σ v) 0 (some b)) 3 (some (b + 1))) 5 (some (b + 2))) 8 (some (b + 3))) 9 (some (b + 4))) 10 (some (b + 5))) 11 (some (b + 8))) 12 (some (b + 13))) 13 (some (b + 18))) 14 (some (b + 20))) 15 (some (b + 24)) := by
    rw [g123, g112, g103, g94, g85, g73, g58, a2, a18, a30, a46, a54, a62, a76, a88, a97, a106, a115]
  have iv : gi σ123 v = up (up (up (up (up (up (gi σ v) 1 0) 2 (-1)) 4 0) 6 0) 7 0) 16 0 := by rw [i123, i42]
  -- frames to the end
  have T112 : FR (fun a => a = v ∨ b + 24 ≤ a) σ109 σ123 := ((F112.mono (fun a h => Or.inl h)).trans (F116.mono (fun a h => Or.inr h))).trans (F123.mono (fun a h => Or.inl h))
  have T103 : FR (fun a => a = v ∨ b + 20 ≤ a) σ100 σ123 := (((F103.mono (fun a h => Or.inl h)).trans (F107.mono (fun a h => Or.inr h))).trans (F109.mono (fun a h => Or.inr h))).trans (T112.mono (fun a h => by omega))
  have T94 : FR (fun a => a = v ∨ b + 18 ≤ a) σ91 σ123 := (((F94.mono (fun a h => Or.inl h)).trans (F98.mono (fun a h => Or.inr h))).trans (F100.mono (fun a h => Or.inr h))).trans (T103.mono (fun a h => by omega))
  have T85 : FR (fun a => a = v ∨ b + 13 ≤ a) σ82 σ123 := (((F85.mono (fun a h => Or.inl h)).trans (F89.mono (fun a h => Or.inr h))).trans (F91.mono (fun a h => Or.inr h))).trans (T94.mono (fun a h => by omega))
  have T73 : FR (fun a => a = v ∨ b + 8 ≤ a) σ70 σ123 := (((F73.mono (fun a h => Or.inl h)).trans (F77.mono (fun a h => Or.inr h))).trans (F82.mono (fun a h => Or.inr h))).trans (T85.mono (fun a h => by omega))
  have T58 : FR (fun a => a = v ∨ b + 5 ≤ a) σ55 σ123 := (((F58.mono (fun a h => Or.inl h)).trans (F63.mono (fun a h => Or.inr h))).trans (F70.mono (fun a h => Or.inr h))).trans (T73.mono (fun a h => by omega))
  have T50 : FR (fun a => a = v ∨ b + 4 ≤ a) σ47 σ123 := ((F50.mono (fun a h => Or.inl h)).trans (F55.mono (fun a h => Or.inr h))).trans (T58.mono (fun a h => by omega))
  have T42 : FR (fun a => a = v ∨ b + 3 ≤ a) σ31 σ123 := ((F42.mono (fun a h => Or.inl h)).trans (F47.mono (fun a h => Or.inr h))).trans (T50.mono (fun a h => by omega))
  have T26 : FR (fun a => a = v ∨ b + 2 ≤ a) σ19 σ123 := ((F26.mono (fun a h => Or.inl h)).trans (F31.mono (fun a h => Or.inr h))).trans (T42.mono (fun a h => by omega))
  have T14 : FR (fun a => a = v ∨ b + 1 ≤ a) σ3 σ123 := ((F14.mono (fun a h => Or.inl h)).trans (F19.mono (fun a h => Or.inr h))).trans (T26.mono (fun a h => by omega))
  have T0 : FR (fun a => a = v ∨ b ≤ a) σ σ123 := F3.trans (T14.mono (fun a h => by omega))
  have hcE : hc σ123 = hc σ + 25 := by
    have : hc σ123 = hc σ112 + 1 := by rw [e123, e119, e116]; rfl
    omega
  have hvE : hv σ123 = hv σ + 10950 := by
    have z1 : hv σ123 = hv σ109 + 300 := by rw [e123, e119, e116, e112]; rfl
    have z2 : hv σ107 = hv σ100 + 3 := by rw [e107, e103]; rfl
    have z3 : hv σ98 = hv σ91 + 2 := by rw [e98, e94]; rfl
    have z4 : hv σ89 = hv σ82 + 10 := by rw [e89, e85]; rfl
    have z5 : hv σ77 = hv σ70 + 8 := by rw [e77, e73]; rfl
    have z6 : hv σ63 = hv σ55 + 4 := by rw [e63, e58]; rfl
    have z7 : hv σ55 = hv σ42 + 4096 + 4096 := by rw [e55, e50, e47]; rfl
    have z8 : hv σ42 = hv σ26 + 200 := by rw [e42, e38, e34, e31]; rfl
    have z9 : hv σ26 = hv σ + 200 + 1000 := by rw [e26, e22, e19, e14, e10, e6, e3]; rfl
    omega
  refine ⟨rfl, nnr σ123 (b + 19), ctp_le _ _, ?_, T0, hcE, hvE⟩
  have F82' := T85
  refine RepC_start vb (by omega) (F123.gh h116) gv iv (T14.gh s3) (T26.gh s19) (T42.gh s31) (by rw [T42.gr (by omega)]; exact n31) (F123.gh s116) ?_ (K := fun _ => (0, 0, 0)) ?_ ?_ ?_ ?_
  · have e : ∀ i, gr σ123 (b + 5) i = gr σ70 q62 i := fun i => by rw [T73.gr (by omega), a62]
    refine ⟨by rw [← a62]; exact T73.gh (F70.gh s63), by rw [e, p0, a46], by rw [e, p1, a54], by rw [e, p2], by rw [e, p3], T50.gh s47, T58.gh s55, T73.gh p4, T73.gh p5, by omega, by omega⟩
  · rw [a76, a46] at V
    exact V.fr T85 (by omega) (by omega) (by omega) (by omega) (by omega)
  · have e : ∀ i, gr σ123 (b + 13) i = gr σ91 q88 i := fun i => by rw [T94.gr (by omega), a88]
    exact ⟨by rw [← a88]; exact T94.gh (F91.gh s89), by rw [e, r0], by rw [e, r1], T94.gh r2, T94.gh r3⟩
  · have e : ∀ i, gr σ123 (b + 18) i = gr σ100 q97 i := fun i => by rw [T103.gr (by omega), a97]
    exact ⟨by rw [← a97]; exact T103.gh (F100.gh s98), by rw [e, t0], T103.gh t2, by rw [T103.gr (by omega)]; exact t3⟩
  · rw [a106] at CO
    exact CO.fr T112 (by omega) (by omega) (by omega) (by omega)
end IN8
