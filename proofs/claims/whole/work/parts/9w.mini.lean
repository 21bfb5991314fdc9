/-! ROWS of the model: its constructor. -/
def shp (j : Nat) : Nat × Nat := [(20, 200), (20, 1000), (21, 200), (23, 12800), (22, 12), (22, 300), (23, 4096), (23, 4096), (23, 7040), (22, 64), (22, 64), (22, 64), (22, 256), (22, 4096), (22, 200)].getD j (0, 0)
def flM (j : Nat) : Nat := [1, 3, 8, 9, 10, 11, 13, 14, 15, 16, 17, 18, 19, 21, 22].getD j 0
def grM (f : Nat → Option Nat) (b : Nat) : Nat → Nat → Option Nat
  | 0 => f
  | j + 1 => up (grM f b j) (flM j) (some (b + j))
def svs : Nat → Nat
  | 0 => 0
  | j + 1 => svs j + (shp j).2
def rolM (k : Nat) : Nat := if k ≤ 8 then k + 52 else if k ≤ 12 then k + 62 else k + 48
def ownM (own0 : Nat → Nat) (v b : Nat) : Nat → Nat := fun a => if a = v then 51 else if b ≤ a then rolM (a - b) else own0 a
def madM (v b : Nat) : Nat → Nat := fun i => if i = 0 then v else if i ≤ 9 then b + (i - 1) else b + i + 3
theorem ownM_ad {own0 : Nat → Nat} {v b : Nat} (hvb : v < b) {i : Nat} (hi : i < 12) : ownM own0 v b (madM v b i) = 51 + i ∧ madM v b i < b + 15 := by
  unfold madM
  by_cases h0 : i = 0
  · rw [if_pos h0]
    exact ⟨(if_pos rfl).trans (by omega), by omega⟩
  · rw [if_neg h0]
    by_cases h1 : i ≤ 9
    · rw [if_pos h1]
      refine ⟨(if_neg (by omega)).trans ((if_pos (by omega)).trans ?_), by omega⟩
      rw [show b + (i - 1) - b = i - 1 by omega]
      exact (if_pos (by omega)).trans (by omega)
    · rw [if_neg h1]
      refine ⟨(if_neg (by omega)).trans ((if_pos (by omega)).trans ?_), by omega⟩
      rw [show b + i + 3 - b = i + 3 by omega]
      exact (if_neg (by omega)).trans ((if_neg (by omega)).trans (by omega))
theorem ownM_n {own0 : Nat → Nat} {v b k : Nat} (hvb : v < b) : ownM own0 v b (b + k) = rolM k := (if_neg (by omega)).trans ((if_pos (by omega)).trans (by rw [show b + k - b = k by omega]))
section IN10
variable {Γ : Gm} {d : Nat} {σ : AH}
/-- j arrays made -/
def INV (Γ : Gm) (σ : AH) (v b j : Nat) (g : Nat → Int32) (τ : AH) : Prop := WF Γ τ ∧ hs τ v = some (7, 27) ∧ hc τ = hc σ + j ∧ hv τ = hv σ + svs j ∧ gr τ v = grM (gr σ v) b j ∧ gi τ v = g ∧ FR (fun a => a = v ∨ b ≤ a) σ τ ∧ ∀ i, i < j → hs τ (b + i) = some (shp i) ∧ gi τ (b + i) = fun _ => 0
theorem INV.stg {τ τ1 : AH} {v b j q : Nat} {g : Nat → Int32} (I : INV Γ σ v b j g τ) (hb : lo Γ + hc σ = b) (vb : v < b) (hq : q = lo Γ + hc τ) (e1 : τ1 = mk τ q (shp j).1 (shp j).2) : hs τ1 v = some (7, 27) ∧ ∀ τ2, τ2 = setR τ1 v (flM j) (some q) → INV Γ σ v b (j + 1) g τ2 := by
  obtain ⟨W, h, c1, v1, r1, g1, F, A⟩ := I
  have eq' : q = b + j := by omega
  have F1 : FR (fun a => a = v ∨ b ≤ a) τ τ1 := by rw [e1, hq]; exact FR.mk _ _ W (Or.inr (by omega))
  have F0 : FR (fun a => a = b + j) τ τ1 := by rw [e1, hq]; exact FR.mk _ _ W (by omega)
  have h1 := F1.gh h
  have W1 : WF Γ τ1 := by rw [e1, hq]; exact W.mk
  refine ⟨h1, fun τ2 e2 => ?_⟩
  have F2 : FR (fun a => a = v ∨ b ≤ a) τ1 τ2 := by rw [e2]; exact FR.setR _ _ _ (Or.inl rfl)
  have gI : gi τ2 = gi τ1 := by rw [e2]; rfl
  refine ⟨by rw [e2]; exact W1.upd h1 (by decide) rfl rfl (fun _ _ => rfl), F2.gh h1, ?_, ?_, ?_, ?_, (F.trans F1).trans F2, fun i hi => ?_⟩
  · rw [e2]
    show hc τ1 = _
    rw [e1, hc_mk, c1]; omega
  · rw [e2]
    show hv τ1 = _
    rw [e1, hv_mk, v1]
    show hv σ + svs j + (shp j).2 = hv σ + (svs j + (shp j).2)
    omega
  · rw [e2, gR_s, F0.gr (show ¬ v = b + j by omega), r1, eq']; rfl
  · rw [gI, F0.gi (show ¬ v = b + j by omega)]; exact g1
  · by_cases y : i = j
    · rw [y]
      refine ⟨F2.gh (by rw [e1, eq']; exact hs_mk_s _ _ _ _), ?_⟩
      rw [gI, e1, eq']
      exact gi_mk_s _ _ _ _
    · obtain ⟨a1, a2⟩ := A i (by omega)
      exact ⟨F2.gh (F1.gh a1), by rw [gI, F0.gi (show ¬ b + i = b + j by omega)]; exact a2⟩
theorem INV.int {τ τ1 : AH} {v b j i : Nat} {x : Int32} {g : Nat → Int32} (I : INV Γ σ v b j g τ) (vb : v < b) (e1 : τ1 = setI τ v i x) : INV Γ σ v b j (up g i x) τ1 := by
  obtain ⟨W, h, c1, v1, r1, g1, F, A⟩ := I
  refine ⟨by rw [e1]; exact W.upd h (by decide) rfl rfl (fun _ _ => rfl), by rw [e1]; exact h, by rw [e1]; exact c1, by rw [e1]; exact v1, by rw [e1]; exact r1, by rw [e1, gi_setI_s, g1], F.trans (by rw [e1]; exact FR.setI _ _ _ (Or.inl rfl)), fun k hk => ?_⟩
  obtain ⟨a1, a2⟩ := A k hk
  exact ⟨by rw [e1]; exact a1, by rw [e1, gi_setI_n _ _ _ (show b + k ≠ v by omega)]; exact a2⟩
theorem RepM_start {τ : AH} {own0 : Nat → Nat} {v b : Nat} (vb : v < b) (hb : lo Γ + hc σ = b) (I : INV Γ σ v b 15 (up (fun _ => 0) 5 (-1)) τ) : RepM Γ τ (ownM own0 v b) (madM v b) stS 6 := by
  obtain ⟨W, h, c1, v1, r1, g1, F, A⟩ := I
  have ok0 : ∀ f, okv stS f = false := fun f => by
    cases q : okv stS f
    · rfl
    · exact absurd (okf_t.mp q).1 (Nat.not_lt_zero f)
  have e : lo Γ + hc τ = b + 15 := by omega
  refine ⟨fun i hi => by rw [e]; exact ownM_ad vb hi, ?_, ?_, ?_, ?_, ?_, ?_⟩
  · have e0 : madM v b 0 = v := rfl
    unfold M1
    rw [e0, r1]
    exact ⟨h, rfl, rfl, rfl, rfl, rfl, rfl, rfl, rfl, rfl, rfl, rfl⟩
  · exact ⟨(A 0 (by omega)).1, (A 1 (by omega)).1, (A 2 (by omega)).1, (A 3 (by omega)).1, (A 4 (by omega)).1, (A 5 (by omega)).1, (A 6 (by omega)).1, (A 7 (by omega)).1, (A 8 (by omega)).1, (A 13 (by omega)).1, (A 14 (by omega)).1⟩
  · have e0 : madM v b 0 = v := rfl
    unfold M3
    rw [e0, g1]
    exact ⟨rfl, rfl, rfl, rfl, rfl, rfl⟩
  · refine ⟨fun i hi => absurd hi (Nat.not_lt_zero i), fun i hi => absurd hi (Nat.not_lt_zero i), fun i _ => ?_, fun i _ => ?_, fun i hi => absurd hi (Nat.not_lt_zero i), fun f hf => by rw [ok0] at hf; exact absurd hf (by decide)⟩
    · show gi τ (b + 2) i = 0
      rw [(A 2 (by omega)).2]
    · show gi τ (b + 4) i = 0
      rw [(A 4 (by omega)).2]
  · have e0 : madM v b 0 = v := rfl
    refine ⟨b + 9, b + 10, b + 11, b + 12, ⟨h, ?_, ?_, ?_, ?_, (A 9 (by omega)).1, (A 10 (by omega)).1, (A 11 (by omega)).1, (A 12 (by omega)).1, ⟨by omega, by omega, by omega, by omega, by omega, by omega⟩, by omega, by omega⟩, ⟨?_, ?_, ?_, ?_⟩, by omega, by omega, by omega, by omega⟩
    · rw [e0, r1]; rfl
    · rw [e0, r1]; rfl
    · rw [e0, r1]; rfl
    · rw [e0, r1]; rfl
    · rw [ownM_n vb]; exact ⟨by decide, by decide⟩
    · rw [ownM_n vb]; exact ⟨by decide, by decide⟩
    · rw [ownM_n vb]; exact ⟨by decide, by decide⟩
    · rw [ownM_n vb]; exact ⟨by decide, by decide⟩
  · refine ⟨Nat.zero_le _, Nat.zero_le _, Nat.zero_le _, Nat.zero_le _, fun _ _ => rfl, fun f hf => by rw [ok0] at hf; exact absurd hf (by decide), fun e _ => ?_, fun i hi => absurd hi (Nat.not_lt_zero i)⟩
    have : (sK stS e).toInt = 0 := rfl
    omega
theorem minit_R {v : Nat} {own0 : Nat → Nat} (h0 : hs σ v = some (7, 27)) (g0 : gi σ v = fun _ => 0) (hd : 1 ≤ d) : RV Γ d MX9_init [.ref v] σ (fun τ => RepM Γ τ (ownM own0 v (lo Γ + hc σ)) (madM v (lo Γ + hc σ)) stS 6 ∧ FR (OB Γ σ v) σ τ ∧ hc τ = hc σ + 15 ∧ hv τ = hv σ + 34488) := by
  refine RUN.wf (fun W => ?_)
  have vb := W.1 _ _ h0
  obtain ⟨b, hb⟩ : ∃ b, lo Γ + hc σ = b := ⟨_, rfl⟩
  rw [hb] at vb ⊢
  have I0 : INV Γ σ v b 0 (fun _ => 0) σ := ⟨W, h0, rfl, rfl, rfl, g0, FR.refl _ _, fun i hi => absurd hi (Nat.not_lt_zero i)⟩
  refine eX9_init ⟨hd, fun q2 σ3 hq e => ?_⟩
  have s := I0.stg hb vb hq e
  refine ⟨s.1, fun σ6 e' => ?_⟩
  have I := s.2 σ6 e'
  clear s e e' hq I0
  intro q10 σ11 hq e
  have s := I.stg hb vb hq e
  refine ⟨s.1, fun σ14 e' => ?_⟩
  have I := s.2 σ14 e'
  clear s e e' hq
  intro σ18 e
  have I := I.int vb e
  clear e
  intro q22 σ23 hq e
  have s := I.stg hb vb hq e
  refine ⟨s.1, fun σ26 e' => ?_⟩
  have I := s.2 σ26 e'
  clear s e e' hq
  intro q30 σ31 hq e
  have s := I.stg hb vb hq e
  refine ⟨s.1, fun σ34 e' => ?_⟩
  have I := s.2 σ34 e'
  clear s e e' hq
  intro q38 σ39 hq e
  have s := I.stg hb vb hq e
  refine ⟨s.1, fun σ42 e' => ?_⟩
  have I := s.2 σ42 e'
  clear s e e' hq
  intro q46 σ47 hq e
  have s := I.stg hb vb hq e
  refine ⟨s.1, fun σ50 e' => ?_⟩
  have I := s.2 σ50 e'
  clear s e e' hq
  intro q54 σ55 hq e
  have s := I.stg hb vb hq e
  refine ⟨s.1, fun σ58 e' => ?_⟩
  have I := s.2 σ58 e'
  clear s e e' hq
  intro q62 σ63 hq e
  have s := I.stg hb vb hq e
  refine ⟨s.1, fun σ66 e' => ?_⟩
  have I := s.2 σ66 e'
  clear s e e' hq
  intro q70 σ71 hq e
  have s := I.stg hb vb hq e
  refine ⟨s.1, fun σ74 e' => ?_⟩
  have I := s.2 σ74 e'
  clear s e e' hq
  intro q78 σ79 hq e
  have s := I.stg hb vb hq e
  refine ⟨s.1, fun σ82 e' => ?_⟩
  have I := s.2 σ82 e'
  clear s e e' hq
  intro q86 σ87 hq e
  have s := I.stg hb vb hq e
  refine ⟨s.1, fun σ90 e' => ?_⟩
  have I := s.2 σ90 e'
  clear s e e' hq
  intro q94 σ95 hq e
  have s := I.stg hb vb hq e
  refine ⟨s.1, fun σ98 e' => ?_⟩
  have I := s.2 σ98 e'
  clear s e e' hq
  intro q102 σ103 hq e
  have s := I.stg hb vb hq e
  refine ⟨s.1, fun σ106 e' => ?_⟩
  have I := s.2 σ106 e'
  clear s e e' hq
  intro q110 σ111 hq e
  have s := I.stg hb vb hq e
  refine ⟨s.1, fun σ114 e' => ?_⟩
  have I := s.2 σ114 e'
  clear s e e' hq
  intro q118 σ119 hq e
  have s := I.stg hb vb hq e
  refine ⟨s.1, fun σ122 e' => ?_⟩
  have I := s.2 σ122 e'
  clear s e e' hq
  refine ⟨rfl, ?_⟩
  · refine ⟨RepM_start vb hb I, I.2.2.2.2.2.2.1.mono (fun a h => ?_), I.2.2.1, by rw [I.2.2.2.1]; rfl⟩
    rcases h with z | z
    · exact Or.inl z
    · exact Or.inr (by omega)
end IN10
