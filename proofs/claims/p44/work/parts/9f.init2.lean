/-! ROWS of FamilyStore: what its constructor leaves. -/
def rolC (k : Nat) : Nat := if k ≤ 8 then k + 2 else if k = 9 then 24 else if k ≤ 12 then k + 11 else if k ≤ 15 then k - 2 else if k ≤ 17 then 0 else k - 4
def ownC (own0 : Nat → Nat) (v b : Nat) : Nat → Nat := fun a => if a = v then 1 else if b ≤ a then rolC (a - b) else own0 a
def adC (v b : Nat) : Nat → Nat := fun i => if i = 0 then v else if i ≤ 9 then b + (i - 1) else if i ≤ 12 then b + i + 3 else b + i + 5
def stS : StT := (fun _ => 0, 0, -1, fun _ => 0, 0, 0, fun _ => false, 0, fun _ => zf, fun _ => 0, fun _ => 0, 0)
theorem ownC_ad {own0 : Nat → Nat} {v b : Nat} (hvb : v < b) {i : Nat} (hi : i < 20) : ownC own0 v b (adC v b i) = i + 1 ∧ adC v b i < b + 25 := by
  unfold adC
  by_cases h0 : i = 0
  · rw [if_pos h0]
    exact ⟨(if_pos rfl).trans (by omega), by omega⟩
  · rw [if_neg h0]
    by_cases h1 : i ≤ 9
    · rw [if_pos h1]
      refine ⟨(if_neg (by omega)).trans ((if_pos (by omega)).trans ?_), by omega⟩
      rw [show b + (i - 1) - b = i - 1 by omega]
      exact (if_pos (by omega)).trans (by omega)
    · rw [if_neg h1]
      by_cases h2 : i ≤ 12
      · rw [if_pos h2]
        refine ⟨(if_neg (by omega)).trans ((if_pos (by omega)).trans ?_), by omega⟩
        rw [show b + i + 3 - b = i + 3 by omega]
        exact (if_neg (by omega)).trans ((if_neg (by omega)).trans ((if_neg (by omega)).trans ((if_pos (by omega)).trans (by omega))))
      · rw [if_neg h2]
        refine ⟨(if_neg (by omega)).trans ((if_pos (by omega)).trans ?_), by omega⟩
        rw [show b + i + 5 - b = i + 5 by omega]
        exact (if_neg (by omega)).trans ((if_neg (by omega)).trans ((if_neg (by omega)).trans ((if_neg (by omega)).trans ((if_neg (by omega)).trans (by omega)))))
theorem ownC_n {own0 : Nat → Nat} {v b k : Nat} (hvb : v < b) : ownC own0 v b (b + k) = rolC k := (if_neg (by omega)).trans ((if_pos (by omega)).trans (by rw [show b + k - b = k by omega]))
theorem RepC_start {Γ : Gm} {τ : AH} {own0 : Nat → Nat} {v b : Nat} {f0 : Nat → Option Nat} {j0 : Nat → Int32} {K : Nat → Nat × Nat × Nat} (vb : v < b) (eb : lo Γ + hc τ = b + 25) (hv0 : hs τ v = some (6, 17))
    (gv : gr τ v = up (up (up (up (up (up (up (up (up (up (up f0 0 (some b)) 3 (some (b + 1))) 5 (some (b + 2))) 8 (some (b + 3))) 9 (some (b + 4))) 10 (some (b + 5))) 11 (some (b + 8))) 12 (some (b + 13))) 13 (some (b + 18))) 14 (some (b + 20))) 15 (some (b + 24)))
    (iv : gi τ v = up (up (up (up (up (up j0 1 0) 2 (-1)) 4 0) 6 0) 7 0) 16 0)
    (s1 : hs τ b = some (20, 200)) (s2 : hs τ (b + 1) = some (20, 1000)) (s3 : hs τ (b + 2) = some (25, 200)) (n3 : gr τ (b + 2) = fun _ => none) (s19 : hs τ (b + 24) = some (22, 300))
    (al : AlgOK τ (b + 5) (b + 3) (b + 4) (b + 6) (b + 7)) (V : DV τ (b + 8) (b + 3) (b + 9) (b + 10) (b + 11) (b + 12) 6 2 K (fun i => if i = 0 then zf else onef) (fun _ => 0) 0)
    (r : hs τ (b + 13) = some (5, 10) ∧ gr τ (b + 13) 0 = some (b + 14) ∧ gr τ (b + 13) 1 = some (b + 15) ∧ hs τ (b + 14) = some (22, 200) ∧ hs τ (b + 15) = some (22, 200))
    (t : hs τ (b + 18) = some (1, 2) ∧ gr τ (b + 18) 0 = some (b + 19) ∧ hs τ (b + 19) = some (26, 43) ∧ gr τ (b + 19) = fun _ => none)
    (co : CostOK τ (b + 20) (b + 21) (b + 22) (b + 23) (fun _ => 0)) : RepC Γ τ (ownC own0 v b) (adC v b) stS 6 (nnr τ (b + 19)) := by
  have ok0 : ∀ f, okv stS f = false := fun f => by
    cases q : okv stS f
    · rfl
    · exact absurd (okf_t.mp q).1 (Nat.not_lt_zero f)
  refine ⟨fun i hi => by rw [eb]; exact ownC_ad vb hi, ?_, ?_, r, co, ⟨t.1, t.2.1, t.2.2.1, fun k q _ hq => ?_⟩, fun f hf => ⟨fun _ => ?_, fun z => ?_⟩, ?_, rfl, ?_⟩
  · exact ⟨hv0, by rw [show adC v b 0 = v from rfl, gv]; rfl, by rw [show adC v b 0 = v from rfl, gv]; rfl, by rw [show adC v b 0 = v from rfl, gv]; rfl, by rw [show adC v b 0 = v from rfl, gv]; rfl, by rw [show adC v b 0 = v from rfl, gv]; rfl, by rw [show adC v b 0 = v from rfl, gv]; rfl, by rw [show adC v b 0 = v from rfl, gv]; rfl, by rw [show adC v b 0 = v from rfl, gv]; rfl, by rw [show adC v b 0 = v from rfl, gv]; rfl, by rw [show adC v b 0 = v from rfl, gv]; rfl, by rw [show adC v b 0 = v from rfl, gv]; rfl, s1, s2, s3, s19, al⟩
  · refine ⟨by rw [show adC v b 0 = v from rfl, iv]; rfl, by rw [show adC v b 0 = v from rfl, iv]; rfl, by rw [show adC v b 0 = v from rfl, iv]; rfl, by rw [show adC v b 0 = v from rfl, iv]; rfl, by rw [show adC v b 0 = v from rfl, iv]; rfl, by rw [show adC v b 0 = v from rfl, iv]; rfl, fun i hi => absurd hi (Nat.not_lt_zero i), fun i hi => absurd hi (Nat.not_lt_zero i), fun i hi => absurd hi (Nat.not_lt_zero i)⟩
  · rw [show adC v b 14 = b + 19 from rfl, t.2.2.2] at hq
    exact absurd hq (by simp)
  · rw [show adC v b 3 = b + 2 from rfl, n3]
  · rw [ok0] at z; exact absurd z (by decide)
  · refine ⟨b + 9, b + 10, b + 11, b + 12, 2, K, _, _, 0, V, ⟨ownC_n vb, ownC_n vb, ownC_n vb, ownC_n vb⟩, fun i h1 h2 => absurd h2 (by omega), fun i => Nat.zero_le _, Nat.zero_le _, ?_, fun f g hf => by rw [ok0] at hf; exact absurd hf (by decide)⟩
    unfold lowc
    rw [ctp_none (fun x hx h => by omega)]
    exact Nat.zero_le _
  · refine ⟨Nat.zero_le _, Nat.zero_le _, Nat.zero_le _, Nat.zero_le _, fun _ _ => rfl, fun f hf => by rw [ok0] at hf; exact absurd hf (by decide), fun e _ => ?_, fun i hi => absurd hi (Nat.not_lt_zero i)⟩
    have : (sK stS e).toInt = 0 := rfl
    omega
section IN8
variable {Γ : Gm} {d : Nat} {σ : AH}
theorem ob_fr {σa σb : AH} {q b : Nat} (F : FR (OB Γ σa q) σa σb) (e1 : q = b) (e2 : lo Γ + hc σa = b + 1) : FR (fun a => b ≤ a) σa σb := F.mono (fun a h => by
  rcases h with z | z
  · omega
  · omega)
theorem ge_fr {σa σb : AH} {v b : Nat} {k j : Nat} (F : FR (fun a => a = v ∨ b + k ≤ a) σa σb) (h : j ≤ k) : FR (fun a => a = v ∨ b + j ≤ a) σa σb := F.mono (fun a h => by omega)
theorem r_fr {σa σb : AH} {v b : Nat} (F : FR (fun a => b ≤ a) σa σb) : FR (fun a => a = v ∨ b ≤ a) σa σb := F.mono (fun a h => Or.inr h)
theorem stg {σ1 σ2 : AH} {v b i q q' k n : Nat} (W : WF Γ σ) (h : hs σ v = some (6, 17)) (hb : lo Γ + hc σ = b) (vb : v < b) (e1 : σ1 = setR σ v i (some q)) (hq : q' = lo Γ + hc σ1) (e2 : σ2 = mk σ1 q' k n) : q' = b ∧ WF Γ σ2 ∧ lo Γ + hc σ2 = b + 1 ∧ hs σ2 v = some (6, 17) ∧ hs σ2 b = some (k, n) ∧ gr σ2 v = up (gr σ v) i (some q) ∧ gi σ2 v = gi σ v ∧ FR (fun a => a = v ∨ b ≤ a) σ σ2 ∧ hv σ2 = hv σ + n ∧ gr σ2 b = (fun _ => none) ∧ hc σ2 = hc σ + 1 := by
  have c1 : hc σ1 = hc σ := by rw [e1]; rfl
  have eq' : q' = b := by rw [hq, c1, hb]
  have W1 : WF Γ σ1 := by rw [e1]; exact W.upd h (by decide) rfl rfl (fun _ _ => rfl)
  have h1 : hs σ1 v = some (6, 17) := by rw [e1]; exact h
  have F1 : FR (fun a => a = v ∨ b ≤ a) σ σ1 := by rw [e1]; exact FR.setR (P := fun a => a = v ∨ b ≤ a) _ _ _ (Or.inl rfl)
  have F2 : FR (fun a => a = v ∨ b ≤ a) σ1 σ2 := by rw [e2, hq]; exact FR.mk k n W1 (Or.inr (by omega))
  refine ⟨eq', by rw [e2, hq]; exact W1.mk, by rw [e2, hc_mk]; omega, F2.gh h1, by rw [e2, eq']; exact hs_mk_s _ _ _ _, ?_, ?_, F1.trans F2, by rw [e2, hv_mk, e1]; rfl, by rw [e2, eq']; exact gM_s _ _ _ _, by rw [e2, hc_mk, c1]⟩
  · rw [e2, gM_n _ _ _ (by omega), e1]; exact gR_s _ _ _ _
  · rw [e2, gi_mk_n _ _ _ (by omega), e1]; rfl
/-- as stg, with fields of ints set between -/
theorem stg2 {σ1 σa σ2 : AH} {v b i q q' k n : Nat} {f : Nat → Int32} (W : WF Γ σ) (h : hs σ v = some (6, 17)) (hb : lo Γ + hc σ = b) (vb : v < b) (e1 : σ1 = setR σ v i (some q)) (ea : σa = rowI σ1 v f) (hq : q' = lo Γ + hc σa) (e2 : σ2 = mk σa q' k n) : q' = b ∧ WF Γ σ2 ∧ lo Γ + hc σ2 = b + 1 ∧ hs σ2 v = some (6, 17) ∧ hs σ2 b = some (k, n) ∧ gr σ2 v = up (gr σ v) i (some q) ∧ gi σ2 v = f ∧ FR (fun a => a = v ∨ b ≤ a) σ σ2 ∧ hv σ2 = hv σ + n ∧ gr σ2 b = (fun _ => none) ∧ hc σ2 = hc σ + 1 := by
  have c1 : hc σa = hc σ := by rw [ea, e1]; rfl
  have eq' : q' = b := by rw [hq, c1, hb]
  have W1 : WF Γ σa := by rw [ea, e1]; exact W.upd h (by decide) rfl rfl (fun _ _ => rfl)
  have h1 : hs σa v = some (6, 17) := by rw [ea, e1]; exact h
  have F1 : FR (fun a => a = v ∨ b ≤ a) σ σa := by rw [ea, e1]; exact (FR.setR (P := fun a => a = v ∨ b ≤ a) _ _ _ (Or.inl rfl)).trans (FR.rowI _ _ (Or.inl rfl))
  have F2 : FR (fun a => a = v ∨ b ≤ a) σa σ2 := by rw [e2, hq]; exact FR.mk k n W1 (Or.inr (by omega))
  refine ⟨eq', by rw [e2, hq]; exact W1.mk, by rw [e2, hc_mk]; omega, F2.gh h1, by rw [e2, eq']; exact hs_mk_s _ _ _ _, ?_, ?_, F1.trans F2, by rw [e2, hv_mk, ea, e1]; rfl, by rw [e2, eq']; exact gM_s _ _ _ _, by rw [e2, hc_mk, c1]⟩
  · rw [e2, gM_n _ _ _ (by omega), ea]; show gr σ1 v = _; rw [e1]; exact gR_s _ _ _ _
  · rw [e2, gi_mk_n _ _ _ (by omega), ea]; exact up_same _ _ _
theorem set2 {σ1 σ2 : AH} {v i j : Nat} {x y : Int32} (e1 : σ1 = setI σ v i x) (e2 : σ2 = setI σ1 v j y) : σ2 = rowI σ v (up (up (gi σ v) i x) j y) := by
  rw [e2, e1]
  show rowI (rowI σ v (up (gi σ v) i x)) v (up (gi (rowI σ v (up (gi σ v) i x)) v) j y) = _
  rw [show gi (rowI σ v (up (gi σ v) i x)) v = up (gi σ v) i x from up_same _ _ _, rowI_rowI]
def igA (j : Nat → Int32) : Nat → Int32 := up (up (up (up (up j 1 0) 2 (-1)) 4 0) 6 0) 7 0
def grA (f : Nat → Option Nat) (b : Nat) : Nat → Option Nat := up (up (up (up (up f 0 (some b)) 3 (some (b + 1))) 5 (some (b + 2))) 8 (some (b + 3))) 9 (some (b + 4))
set_option maxHeartbeats 4000000 in
theorem iniA {σ3 σ6 σ10 σ14 σ19 σ22 σ26 σ31 σ34 σ38 σ42 σ47 σ50 σ55 σ58 σ63 : AH} {v b q2 q18 q30 q46 q54 q62 : Nat} (W : WF Γ σ) (h0 : hs σ v = some (6, 17)) (hb : lo Γ + hc σ = b) (vb : v < b) (hq2 : q2 = lo Γ + hc σ) (e3 : σ3 = mk σ q2 20 200) (e6 : σ6 = setR σ3 v 0 (some q2)) (e10 : σ10 = setI σ6 v 1 0) (e14 : σ14 = setI σ10 v 2 (-1)) (hq18 : q18 = lo Γ + hc σ14) (e19 : σ19 = mk σ14 q18 20 1000) (e22 : σ22 = setR σ19 v 3 (some q18)) (e26 : σ26 = setI σ22 v 4 0) (hq30 : q30 = lo Γ + hc σ26) (e31 : σ31 = mk σ26 q30 25 200) (e34 : σ34 = setR σ31 v 5 (some q30)) (e38 : σ38 = setI σ34 v 6 0) (e42 : σ42 = setI σ38 v 7 0) (hq46 : q46 = lo Γ + hc σ42) (e47 : σ47 = mk σ42 q46 22 4096) (e50 : σ50 = setR σ47 v 8 (some q46)) (hq54 : q54 = lo Γ + hc σ50) (e55 : σ55 = mk σ50 q54 22 4096) (e58 : σ58 = setR σ55 v 9 (some q54)) (hq62 : q62 = lo Γ + hc σ58) (e63 : σ63 = mk σ58 q62 0 4) :
    (hs σ19 v = some (6, 17) ∧ hs σ31 v = some (6, 17) ∧ hs σ47 v = some (6, 17) ∧ hs σ55 v = some (6, 17)) ∧ (q46 = b + 3 ∧ q54 = b + 4 ∧ q62 = b + 5) ∧ WF Γ σ63 ∧ lo Γ + hc σ63 = b + 6 ∧ hs σ63 v = some (6, 17) ∧ hs σ63 (b + 5) = some (0, 4) ∧ gr σ63 v = grA (gr σ v) b ∧ gi σ63 v = igA (gi σ v) ∧ (hs σ63 b = some (20, 200) ∧ hs σ63 (b + 1) = some (20, 1000) ∧ hs σ63 (b + 2) = some (25, 200) ∧ hs σ63 (b + 3) = some (22, 4096) ∧ hs σ63 (b + 4) = some (22, 4096)) ∧ gr σ63 (b + 2) = (fun _ => none) ∧ FR (fun a => a = v ∨ b ≤ a) σ σ63 ∧ hc σ63 = hc σ + 6 ∧ hv σ63 = hv σ + 9596 := by
  have e2 : q2 = b := by rw [hq2, hb]
  have W3 : WF Γ σ3 := by rw [e3, hq2]; exact W.mk
  have F3 : FR (fun a => a = v ∨ b ≤ a) σ σ3 := by rw [e3, hq2]; exact FR.mk 20 200 W (Or.inr (by omega))
  have h3 : hs σ3 v = some (6, 17) := F3.gh h0
  have s3 : hs σ3 b = some (20, 200) := by rw [e3, e2]; exact hs_mk_s _ _ _ _
  have c3 : lo Γ + hc σ3 = b + 1 := by rw [e3, hc_mk]; omega
  have g3 : gr σ3 v = gr σ v := by rw [e3, gM_n _ _ _ (by omega)]
  have i3 : gi σ3 v = gi σ v := by rw [e3, gi_mk_n _ _ _ (by omega)]
  have k3 : hc σ3 = hc σ + 1 := by rw [e3]; rfl
  have v3 : hv σ3 = hv σ + 200 := by rw [e3]; rfl
  have i6 : gi σ6 v = gi σ v := by rw [e6]; exact i3
  obtain ⟨a1, W19, c19, h19, s19, g19, i19, F19, v19, -, k19⟩ := stg2 W3 h3 c3 (by omega) e6 (set2 e10 e14) hq18 e19
  obtain ⟨a2, W31, c31, h31, s31, g31, i31, F31, v31, n31, k31⟩ := stg2 W19 h19 (show lo Γ + hc σ19 = b + 2 by omega) (by omega) e22 e26 hq30 e31
  obtain ⟨a3, W47, c47, h47, s47, g47, i47, F47, v47, -, k47⟩ := stg2 W31 h31 (show lo Γ + hc σ31 = b + 3 by omega) (by omega) e34 (set2 e38 e42) hq46 e47
  obtain ⟨a4, W55, c55, h55, s55, g55, i55, F55, v55, -, k55⟩ := stg W47 h47 (show lo Γ + hc σ47 = b + 4 by omega) (by omega) e50 hq54 e55
  obtain ⟨a5, W63, c63, h63, s63, g63, i63, F63, v63, -, k63⟩ := stg W55 h55 (show lo Γ + hc σ55 = b + 5 by omega) (by omega) e58 hq62 e63
  have i22 : gi σ22 v = gi σ19 v := by rw [e22]; rfl
  have i34 : gi σ34 v = gi σ31 v := by rw [e34]; rfl
  have T : FR (fun a => a = v ∨ b + 3 ≤ a) σ31 σ63 := (F47.trans (F55.mono (fun a h => by omega))).trans (F63.mono (fun a h => by omega))
  refine ⟨⟨h19, h31, h47, h55⟩, ⟨a3, a4, a5⟩, W63, c63, h63, s63, ?_, ?_, ⟨F63.gh (F55.gh (F47.gh (F31.gh (F19.gh s3)))), F63.gh (F55.gh (F47.gh (F31.gh s19))), F63.gh (F55.gh (F47.gh s31)), F63.gh (F55.gh s47), F63.gh s55⟩, by rw [T.gr (by omega)]; exact n31, ((F3.trans (F19.mono (fun a h => by omega))).trans (F31.mono (fun a h => by omega))).trans (T.mono (fun a h => by omega)), by omega, by omega⟩
  · rw [g63, g55, g47, g31, g19, g3, e2, a1, a2, a3, a4]; rfl
  · rw [i63, i55, i47, i34, i31, i22, i19, i6]; rfl
end IN8

