/-! ROWS of the model: nodes; the digest. -/
/-- what a count of nodes writes -/
def PN (own mad : Nat → Nat) (b a : Nat) : Prop := a = mad 0 ∨ a = mad 10 ∨ NRo (own a) ∨ b ≤ a
section MND
variable {Γ : Gm} {d : Nat} {σ : AH} {own mad : Nat → Nat} {S : StT} {c : Nat}
theorem PN.no (R : RepM Γ σ own mad S c) {i : Nat} (hi : i < 12) (h0 : i ≠ 0) (h10 : i ≠ 10) : ¬ PN own mad (lo Γ + hc σ) (mad i) := by
  rintro (z | z | z | z)
  · exact R.ne hi (by omega) h0 z
  · exact R.ne hi (by omega) h10 z
  · rw [(R.1 i hi).1] at z
    unfold NRo at z
    omega
  · have := (R.1 i hi).2
    omega
theorem PN.mw (R : RepM Γ σ own mad S c) {a : Nat} (h : PN own mad (lo Γ + hc σ) a) : RP MW own (lo Γ + hc σ) a := by
  rcases h with z | z | z | z
  · exact R.md ⟨0, by omega, z⟩
  · exact R.md ⟨10, by omega, z⟩
  · exact Or.inl (by unfold NRo at z; unfold MW; omega)
  · exact Or.inr z
theorem RepM.nodes {σ' : AH} {tp lw hg sl c' : Nat} (R : RepM Γ σ own mad S c) (W' : WF Γ σ') (M : MSh σ' (mad 0) tp lw hg sl c') (O' : OF (mad 0) (PN own mad (lo Γ + hc σ)) σ σ') (p : (PN own mad (lo Γ + hc σ) tp ∧ tp ≠ mad 10) ∧ (PN own mad (lo Γ + hc σ) lw ∧ lw ≠ mad 10) ∧ (PN own mad (lo Γ + hc σ) hg ∧ hg ≠ mad 10) ∧ (PN own mad (lo Γ + hc σ) sl ∧ sl ≠ mad 10)) (h1 : hc σ' + 4 * c = hc σ + 4 * c') (h2 : hv σ' + 7 * 2 ^ (c + 1) = hv σ + 7 * 2 ^ (c' + 1)) (h3 : c ≤ c') : StepM Γ σ own mad c S σ' ∧ gi σ' (mad 0) 0 = gi σ (mad 0) 0 := by
  obtain ⟨F, gI, gR⟩ := O'
  have R' := R
  obtain ⟨O, x1, x2, x3, x4, x5, x6⟩ := R'
  have hle : lo Γ + hc σ ≤ lo Γ + hc σ' := Nat.add_le_add_left F.1 _
  have role : ∀ {t n : Nat}, hs σ' t = some (22, n) → PN own mad (lo Γ + hc σ) t → t ≠ mad 10 → NRo (if lo Γ + hc σ ≤ t then 71 else own t) ∧ t < lo Γ + hc σ' := fun {t n} ht hp hne => by
    refine ⟨?_, W'.1 _ _ ht⟩
    by_cases y : lo Γ + hc σ ≤ t
    · rw [if_pos y]; unfold NRo; omega
    · rw [if_neg y]
      rcases hp with z | z | z | z
      · rw [z, M.1] at ht
        exact absurd ht (by simp)
      · exact absurd z hne
      · exact z
      · exact absurd z y
  have M' := M
  obtain ⟨N0, N1, N2, N3, N4, N5, N6, N7, N8, N9⟩ := M'
  obtain ⟨⟨p1, p1'⟩, ⟨p2, p2'⟩, ⟨p3, p3'⟩, p4, p4'⟩ := p
  have r1 := role N5 p1 p1'
  have r2 := role N6 p2 p2'
  have r3 := role N7 p3 p3'
  have r4 := role N8 p4 p4'
  refine ⟨⟨fun a => if lo Γ + hc σ ≤ a then 71 else own a, c', ⟨fun i hi => ⟨?_, Nat.lt_of_lt_of_le (O i hi).2 hle⟩, ?_, ?_, ?_, ?_, ⟨tp, lw, hg, sl, M, ⟨r1.1, r2.1, r3.1, r4.1⟩, r1.2, r2.2, r3.2, r4.2⟩, x6⟩, fun a ha => if_neg (by omega), F.mono (fun a h => PN.mw R h), by omega, by omega, h3⟩, gI 0 (by decide)⟩
  · show (if lo Γ + hc σ ≤ mad i then 71 else own (mad i)) = 51 + i
    rw [if_neg (by have := (O i hi).2; omega)]; exact (O i hi).1
  · obtain ⟨y0, y1, y2, y3, y4, y5, y6, y7, y8, y9, y10, y11⟩ := x1
    exact ⟨F.gh y0, (gR _ (by omega)).trans y1, (gR _ (by omega)).trans y2, (gR _ (by omega)).trans y3, (gR _ (by omega)).trans y4, (gR _ (by omega)).trans y5, (gR _ (by omega)).trans y6, (gR _ (by omega)).trans y7, (gR _ (by omega)).trans y8, (gR _ (by omega)).trans y9, (gR _ (by omega)).trans y10, (gR _ (by omega)).trans y11⟩
  · obtain ⟨y1, y2, y3, y4, y5, y6, y7, y8, y9, y10, y11⟩ := x2
    exact ⟨F.gh y1, F.gh y2, F.gh y3, F.gh y4, F.gh y5, F.gh y6, F.gh y7, F.gh y8, F.gh y9, F.gh y10, F.gh y11⟩
  · obtain ⟨y1, y2, y3, y4, y5, y6⟩ := x3
    exact ⟨(gI _ (by decide)).trans y1, (gI _ (by decide)).trans y2, (gI _ (by decide)).trans y3, (gI _ (by decide)).trans y4, (gI _ (by decide)).trans y5, (gI _ (by decide)).trans y6⟩
  · unfold M4 at *
    rw [F.gi (PN.no R (i := 1) (by omega) (by omega) (by omega)), F.gi (PN.no R (i := 2) (by omega) (by omega) (by omega)), F.gi (PN.no R (i := 3) (by omega) (by omega) (by omega)), F.gi (PN.no R (i := 5) (by omega) (by omega) (by omega)), F.gi (PN.no R (i := 6) (by omega) (by omega) (by omega)), F.gj (PN.no R (i := 4) (by omega) (by omega) (by omega))]
    exact x4
theorem RepM.pn (R : RepM Γ σ own mad S c) : ∃ tp lw hg sl, MSh σ (mad 0) tp lw hg sl c ∧ ((PN own mad (lo Γ + hc σ) tp ∧ tp ≠ mad 10) ∧ (PN own mad (lo Γ + hc σ) lw ∧ lw ≠ mad 10) ∧ (PN own mad (lo Γ + hc σ) hg ∧ hg ≠ mad 10) ∧ (PN own mad (lo Γ + hc σ) sl ∧ sl ≠ mad 10)) := by
  obtain ⟨tp, lw, hg, sl, M, ⟨o1, o2, o3, o4⟩, -⟩ := R.2.2.2.2.2.1
  have n : ∀ t, NRo (own t) → t ≠ mad 10 := fun t h z => by
    rw [z, (R.1 10 (by omega)).1] at h
    unfold NRo at h
    omega
  exact ⟨tp, lw, hg, sl, M, ⟨Or.inr (Or.inr (Or.inl o1)), n _ o1⟩, ⟨Or.inr (Or.inr (Or.inl o2)), n _ o2⟩, ⟨Or.inr (Or.inr (Or.inl o3)), n _ o3⟩, ⟨Or.inr (Or.inr (Or.inl o4)), n _ o4⟩⟩
theorem mnodes_call {f : Int32} {K : Int32 → AH → Prop} {KX : String → AH → Prop} (R : RepM Γ σ own mad S c) (e : fcd S f = 0) (k : ∀ σ', WF Γ σ' → StepM Γ σ own mad c S σ' → gi σ' (mad 0) 0 = gi σ (mad 0) 0 → K (vNod (sF S (ixF f))) σ') (hd : 9 ≤ d) : CI Γ d MX9_countNodes [.ref (mad 0), .int f] σ K KX := by
  obtain ⟨tp, lw, hg, sl, M, p⟩ := R.pn
  have n2 := R.n.2
  obtain ⟨e1, e2, e3⟩ := fcd_0 n2 e
  have ef : [Value.ref (mad 0), Value.int f] = [Value.ref (mad 0), Value.int (nI (ixF f))] := by rw [← e1]
  rw [ef]
  refine CI.of (d2 := 8) (countNodes_R (fa := mad 4) (P := PN own mad (lo Γ + hc σ)) M ⟨Or.inl rfl, Or.inr (Or.inl rfl)⟩ p (fun a h => Or.inr (Or.inr (Or.inr h))) R.2.1.2.2.2.2.2.2.2.2.2.2.1 R.2.2.1.2.2.2.2.2.2.2.2.2.1 R.2.1.2.2.2.2.1 R.2.2.1.2.2.2.1 (PN.no R (by omega) (by omega) (by omega)) (show ixF f < 200 by omega) (by omega)) (by omega) (fun r σ' W' q => ?_)
  obtain ⟨kk, tp', lw', hg', sl', c', q1, q2, q3, q4, q5, q6, q7, q8, q9⟩ := q
  obtain ⟨st, g⟩ := R.nodes W' q4 q5 q6 q7 q8 q9
  have ev : r = vNod (sF S (ixF f)) := by
    unfold vNod
    rw [q1]
    congr 1
    rw [R.2.2.2.2.1.2.2.2.2.2 _ e3] at q3
    exact (cardV_eq q3).symm
  rw [ev]
  exact k σ' W' st g
theorem mall_call {K : Int32 → AH → Prop} {KX : String → AH → Prop} (R : RepM Γ σ own mad S c) (k : ∀ σ', WF Γ σ' → StepM Γ σ own mad c S σ' → gi σ' (mad 0) 0 = gi σ (mad 0) 0 → K (vNodeAll S) σ') (hd : 9 ≤ d) : CI Γ d MX9_countAllNodes [.ref (mad 0)] σ K KX := by
  obtain ⟨tp, lw, hg, sl, M, p⟩ := R.pn
  obtain ⟨h6, n2⟩ := R.n
  refine CI.of (d2 := 8) (countAll_R (fa := mad 4) (ir := mad 3) (rel := sR S) (FM := sF S) (P := PN own mad (lo Γ + hc σ)) M ⟨Or.inl rfl, Or.inr (Or.inl rfl)⟩ p (fun a h => Or.inr (Or.inr (Or.inr h))) R.2.1.2.2.2.2.2.2.2.2.2.2.1 R.2.2.1.2.2.2.2.2.2.2.2.2.1 R.2.1.2.2.2.2.1 R.2.2.1.2.2.2.1 (PN.no R (by omega) (by omega) (by omega)) R.2.1.2.2.2.1 R.2.2.1.2.2.1 (PN.no R (by omega) (by omega) (by omega)) (fun i hi => R.2.2.2.2.1.2.2.1 i (by omega)) h6 n2 (fun i hi hr => R.2.2.2.2.1.2.2.2.2.2 i (okf_t.mpr ⟨hi, hr⟩)) (by omega)) (by omega) (fun r σ' W' q => ?_)
  obtain ⟨kk, tp', lw', hg', sl', c', q1, q2, q3, q4, q5, q6, q7, q8, q9⟩ := q
  obtain ⟨st, g⟩ := R.nodes W' q4 q5 q6 q7 q8 q9
  have ev : r = vNodeAll S := by
    unfold vNodeAll
    rw [q1]
    congr 1
    refine (cardV_eq (cardN_cong q3 (fun g => ⟨fun z => ?_, fun z => ?_⟩))).symm
    · obtain ⟨i, i1, i2, i3⟩ := z
      exact ⟨i, okf_t.mpr ⟨i1, i2⟩, i3⟩
    · obtain ⟨i, i1, i2⟩ := z
      obtain ⟨j1, j2⟩ := okf_t.mp i1
      exact ⟨i, j1, j2, i2⟩
  rw [ev]
  exact k σ' W' st g
theorem mnodesOf_C {f : Int32} (R : RepM Γ σ own mad S c) (hd : 10 ≤ d) : CMN Γ d MX9_nodesOf [.ref (mad 0), .int f] σ own mad c (aQ S f vNod) := by
  refine RUN.wf (fun W => eX9_nodesOf ⟨R.2.1.1, mlook_call R ⟨R.2.1.1, fun σ5 e5 => ?_⟩ (by omega)⟩)
  obtain ⟨R5, F5, g5, st, W5⟩ := mq_code R W e5
  have c5 : hc σ5 = hc σ := by rw [e5]; rfl
  have v5 : hv σ5 = hv σ := by rw [e5]; rfl
  rw [g5]
  rcases fcd_le S f with e | e | e
  · rw [aQ_0 e]
    rw [e] at g5 ⊢
    exact ⟨fun z => absurd rfl z, fun _ => mnodes_call R5 e (fun σ' _ st' g => ⟨⟨rfl, g.trans g5⟩, StepM.pre F5 c5 v5 st'⟩) (by omega)⟩
  · rw [aQ_1 e, e]
    rw [e] at g5
    exact ⟨fun _ => ⟨⟨rfl, g5⟩, st⟩, fun z => absurd z (by decide)⟩
  · rw [aQ_2 e, e]
    rw [e] at g5
    exact ⟨fun _ => ⟨⟨rfl, g5⟩, st⟩, fun z => absurd z (by decide)⟩
theorem mnodeCount_C (R : RepM Γ σ own mad S c) (hd : 10 ≤ d) : CMN Γ d MX9_nodeCount [.ref (mad 0)] σ own mad c (0, vNodeAll S, S) := by
  refine RUN.wf (fun W => eX9_nodeCount ⟨R.2.1.1, fun σ2 e2 => ?_⟩)
  obtain ⟨R2, F2, g2, st, W2⟩ := mq_code R W e2
  exact mall_call R2 (fun σ' _ st' g => ⟨⟨rfl, g.trans g2⟩, StepM.pre F2 (by rw [e2]; rfl) (by rw [e2]; rfl) st'⟩) (by omega)
theorem StepM.comp {τ σ' : AH} {own1 : Nat → Nat} {c1 : Nat} {S' : StT} (ag : ∀ a, a < lo Γ + hc σ → own1 a = own a) (F : FR (RP MW own (lo Γ + hc σ)) σ τ) (h1 : hc τ + 4 * c ≤ hc σ + 4 * c1) (h2 : hv τ + 7 * 2 ^ (c + 1) ≤ hv σ + 7 * 2 ^ (c1 + 1)) (h3 : c ≤ c1) (st : StepM Γ τ own1 mad c1 S' σ') : StepM Γ σ own mad c S' σ' := by
  obtain ⟨own', c', R, ag2, F2, a, b, e⟩ := st
  have hle := F.1
  refine ⟨own', c', R, fun a ha => (ag2 a (by omega)).trans (ag a ha), F.trans (F2.mono (fun a ha => ?_)), by omega, by omega, by omega⟩
  rcases ha with z | z
  · rcases Nat.lt_or_ge a (lo Γ + hc σ) with y | y
    · exact Or.inl (by rw [← ag a y]; exact z)
    · exact Or.inr y
  · exact Or.inr (by omega)
theorem StepM.nxt {τ σ' : AH} {S1 S' : StT} (s : StepM Γ σ own mad c S1 τ) (k : ∀ own1 c1, RepM Γ τ own1 mad S1 c1 → StepM Γ τ own1 mad c1 S' σ') : StepM Γ σ own mad c S' σ' := by
  obtain ⟨own1, c1, R1, ag, F, a, b, e⟩ := s
  exact StepM.comp ag F a b e (k own1 c1 R1)
/-- the digest: a long -/
theorem mdigest_C (R : RepM Γ σ own mad S c) (hd : 10 ≤ d) : RUN Γ d MX9_digest [.ref (mad 0)] σ (fun oc σ' => oc = .inl (some (.long (dgB S 12))) ∧ StepM Γ σ own mad c S σ') := by
  refine RUN.wf (fun W => eX9_digest ⟨R.2.1.1, fun σ2 e2 => ?_⟩)
  obtain ⟨R2, F2, g2, st, W2⟩ := mq_code R W e2
  have n2 := R.n.2
  rw [R2.n.1]
  have L2 : ∀ e, e ≤ 12 → ∀ τ, StepM Γ σ own mad c S τ → EV Γ MX9_digest d 91 [some (.ref (mad 0)), some (.long (dgB S e)), none, some (.int (nI e))] [] τ (fun oc σ' => oc = .inl (some (.long (dgB S 12))) ∧ StepM Γ σ own mad c S σ') := by
    refine upto 12 (fun τ s => ?_) (fun e he ih τ s => ?_)
    · exact gX9_digest_91 ⟨fun _ => ⟨rfl, s⟩, fun y => absurd ((c12le (by omega)).mpr (by omega)) y⟩
    · have s' := s
      obtain ⟨own1, c1, R1, -⟩ := s'
      refine gX9_digest_91 ⟨fun y => absurd ((c12le (by omega)).mp y) (by omega), fun _ => ⟨R1.2.1.1, mad 5, R1.2.1.2.2.2.2.2.1, 12, R1.2.2.1.2.2.2.2.1, e, IXn (by omega) (by omega), ?_⟩⟩
      rw [R1.2.2.2.2.1.2.2.2.1 e he, nI_1]
      exact ih τ s
  have L1 : ∀ f, f ≤ sN S → ∀ τ, StepM Γ σ own mad c S τ → EV Γ MX9_digest d 17 [some (.ref (mad 0)), some (.long (dgA S f)), none, some (.int (nI f))] [] τ (fun oc σ' => oc = .inl (some (.long (dgB S 12))) ∧ StepM Γ σ own mad c S σ') := by
    refine upto _ (fun τ s => ?_) (fun f hf ih τ s => ?_)
    · have s' := s
      obtain ⟨own1, c1, R1, ag, F, a, b, e⟩ := s'
      refine gX9_digest_17 ⟨R1.2.1.1, fun _ => mall_call R1 (fun σ' _ st' _ => ?_) (by omega), fun y => absurd ?_ y⟩
      · exact L2 0 (by omega) σ' (StepM.comp ag F a b e st')
      · rw [R1.n.1]; exact Int32.le_refl _
    · have s' := s
      obtain ⟨own1, c1, R1, ag, F, a, b, e⟩ := s'
      have fx : ixF (nI f) = f := pk_tn (by omega)
      refine gX9_digest_17 ⟨R1.2.1.1, fun y => ?_, fun _ => ⟨mad 3, R1.2.1.2.2.2.1, 200, R1.2.2.1.2.2.1, f, IXn (by omega) (by omega), ?_⟩⟩
      · rw [R1.n.1] at y
        have := (nI_leI (by omega) (by omega)).mp y
        omega
      · rw [R1.2.2.2.2.1.2.2.1 f (by omega), nI_1]
        cases q : sR S f
        · have ok : okv S f = true := okf_t.mpr ⟨hf, q⟩
          have fc : fcd S (nI f) = 0 := by
            unfold fcd
            rw [if_neg, if_neg]
            · rw [fx, q]; decide
            · rintro (t | t)
              · exact nI_pos (by omega) t
              · have := (nI_leI (by omega) (by omega)).mp t
                omega
          have ed : dgA S (f + 1) = ((dgA S f) * 31 + (nI (cntF (sF S f))).toInt64) * 31 + (nI (cardV (NP (sF S f)))).toInt64 := if_pos ok
          refine ⟨fun _ => ⟨mad 4, R1.2.1.2.2.2.2.1, mmany_call R1 fc ⟨R1.2.1.1, mnodes_call R1 fc (fun σ' _ st' _ => ?_) (by omega)⟩ (by omega)⟩, fun y => absurd rfl y⟩
          rw [ed] at ih
          rw [fx]
          exact ih σ' (StepM.comp ag F a b e st')
        · have ed : dgA S (f + 1) = dgA S f * 31 - 1 := if_neg (fun y => by
            have := (okf_t.mp y).2
            rw [q] at this; exact absurd this (by decide))
          rw [ed] at ih
          exact ⟨fun y => absurd y (by decide), fun _ => ih τ s⟩
  exact L1 0 (Nat.zero_le _) σ2 st
end MND
