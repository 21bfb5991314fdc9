/-! ROWS of the model: what changes at its arrays; the row in work made a family. -/
def MDs (mad : Nat → Nat) (a : Nat) : Prop := ∃ i, i < 12 ∧ a = mad i
theorem WS_A {S : StT} {F : Nat → Bool} (h : WS S) (hn : sN S < 200) (hF : sup F) : WS (stA S F) := by
  obtain ⟨z1, z2, z3, z4, z5, z6, z7, z8⟩ := h
  refine ⟨z1, z2, by show sN S + 1 ≤ 200; omega, z4, fun i hi => z5 i (by have hi : sN S + 1 ≤ i := hi; omega), fun f hf => ?_, z7, z8⟩
  obtain ⟨h1, h2⟩ := okf_t.mp hf
  have h1 : f < sN S + 1 := h1
  by_cases e : f = sN S
  · rw [e, show sF (stA S F) (sN S) = F from up_same _ _ _]; exact hF
  · rw [show sF (stA S F) f = sF S f from up_ne _ _ e]; exact z6 f (okf_t.mpr ⟨by omega, h2⟩)
section MT
variable {Γ : Gm} {d : Nat} {σ : AH} {own mad : Nat → Nat} {S : StT} {c : Nat}
theorem RepM.ints {σ' : AH} {S' : StT} (R : RepM Γ σ own mad S c) (F : FR (MDs mad) σ σ') (hg : gr σ' = gr σ) (hh : hc σ' = hc σ) (M : M3 σ' mad S') (M' : M4 σ' mad S') (V : WS S') : RepM Γ σ' own mad S' c := by
  obtain ⟨O, x1, x2, x3, x4, x5, x6⟩ := R
  refine ⟨by rw [hh]; exact O, ?_, ?_, M, M', ?_, V⟩
  · obtain ⟨y0, y⟩ := x1
    unfold M1
    rw [hg]
    exact ⟨F.gh y0, y⟩
  · obtain ⟨y1, y2, y3, y4, y5, y6, y7, y8, y9, y10, y11⟩ := x2
    exact ⟨F.gh y1, F.gh y2, F.gh y3, F.gh y4, F.gh y5, F.gh y6, F.gh y7, F.gh y8, F.gh y9, F.gh y10, F.gh y11⟩
  · obtain ⟨tp, lw, hg', sl, ⟨N0, N1, N2, N3, N4, N5, N6, N7, N8, m, N9⟩, o, l⟩ := x5
    exact ⟨tp, lw, hg', sl, ⟨F.gh N0, by rw [hg]; exact N1, by rw [hg]; exact N2, by rw [hg]; exact N3, by rw [hg]; exact N4, F.gh N5, F.gh N6, F.gh N7, F.gh N8, m, N9⟩, o, by rw [hh]; exact l⟩
theorem RepM.md (R : RepM Γ σ own mad S c) {a : Nat} (h : MDs mad a) : RP MW own (lo Γ + hc σ) a := by
  obtain ⟨i, hi, e⟩ := h
  exact Or.inl (by rw [e, (R.1 i hi).1]; unfold MW; omega)
theorem RepM.ne (R : RepM Γ σ own mad S c) {i j : Nat} (hi : i < 12) (hj : j < 12) (ne : i ≠ j) : mad i ≠ mad j := R.1.ne hi hj ne
theorem StepM.ints {σ' : AH} {S' : StT} (R : RepM Γ σ own mad S c) (R' : RepM Γ σ' own mad S' c) (F : FR (MDs mad) σ σ') (h1 : hc σ' = hc σ) (h2 : hv σ' = hv σ) : StepM Γ σ own mad c S' σ' :=
  StepM.same R' (F.mono (fun _ h => R.md h)) h1 h2
theorem FR.mw {τ σ' : AH} {b b' : Nat} (F : FR (RP MW own b) τ σ') (e : b = b') : FR (RP MW own b') τ σ' := by rw [← e]; exact F
theorem StepM.pre {τ σ' : AH} {S' : StT} (F : FR (RP MW own (lo Γ + hc σ)) σ τ) (h1 : hc τ = hc σ) (h2 : hv τ = hv σ) (h : StepM Γ τ own mad c S' σ') : StepM Γ σ own mad c S' σ' := by
  obtain ⟨own', c', R, ag, F2, a, b, e⟩ := h
  rw [h1] at ag F2 a
  rw [h2] at b
  exact ⟨own', c', R, ag, F.trans F2, a, b, e⟩
theorem RepM.ma (R : RepM Γ σ own mad S c) : MA σ (mad 0) (mad 9) (mad 7) (mad 8) :=
  ⟨R.2.1.1, R.2.1.2.2.2.2.2.2.2.1, R.2.1.2.2.2.2.2.2.2.2.1, R.2.1.2.2.2.2.2.2.2.2.2.1, R.2.2.1.2.2.2.2.2.2.1, R.2.2.1.2.2.2.2.2.2.2.1, R.2.2.1.2.2.2.2.2.2.2.2.1, R.ne (by omega) (by omega) (by omega), R.ne (by omega) (by omega) (by omega), R.ne (by omega) (by omega) (by omega)⟩
/-- only the rows in work are written -/
theorem RepM.wk {σ' : AH} (R : RepM Γ σ own mad S c) (h : Chg (fun _ => False) (mJ (mad 9) (mad 7) (mad 8)) σ σ') : RepM Γ σ' own mad S c ∧ FR (MDs mad) σ σ' := by
  have F : FR (MDs mad) σ σ' := FR.chg h (fun a z => z.elim) (fun a z => by
    rcases z with z | z | z
    · exact ⟨9, by omega, z⟩
    · exact ⟨7, by omega, z⟩
    · exact ⟨8, by omega, z⟩)
  have n4 : ¬ mJ (mad 9) (mad 7) (mad 8) (mad 4) := by
    rintro (z | z | z)
    · exact R.ne (by omega) (by omega) (by omega) z
    · exact R.ne (by omega) (by omega) (by omega) z
    · exact R.ne (by omega) (by omega) (by omega) z
  have gI : gi σ' = gi σ := funext (fun a => h.gi (fun z => z))
  have R' := R
  obtain ⟨O, x1, x2, x3, x4, x5, x6⟩ := R'
  refine ⟨R.ints F h.2.2.2.1 h.1 ?_ ?_ x6, F⟩
  · unfold M3
    rw [gI]; exact x3
  · unfold M4
    rw [gI, h.gj n4]; exact x4
/-- a walk that only wrote rows in work, the first of them holding this -/
def MK (Γ : Gm) (σ : AH) (own mad : Nat → Nat) (S : StT) (c : Nat) (τ : AH) (F : Nat → Bool) : Prop := RepM Γ τ own mad S c ∧ FR (RP MW own (lo Γ + hc σ)) σ τ ∧ hc τ = hc σ ∧ hv τ = hv σ ∧ gi τ (mad 0) 0 = 0 ∧ fam (sr (gj τ (mad 9)) 0) = F
theorem RepM.wk2 {τ τ' : AH} (R : RepM Γ τ own mad S c) (F : FR (RP MW own (lo Γ + hc σ)) σ τ) (h1 : hc τ = hc σ) (h2 : hv τ = hv σ) (h3 : gi τ (mad 0) 0 = 0) (h : Chg (fun _ => False) (mJ (mad 9) (mad 7) (mad 8)) τ τ') : MK Γ σ own mad S c τ' (fam (sr (gj τ' (mad 9)) 0)) := by
  obtain ⟨R', F'⟩ := R.wk h
  exact ⟨R', F.trans ((F'.mono (fun _ z => R.md z)).mw (by rw [h1])), by rw [h.1]; exact h1, by rw [h.2.1]; exact h2, by rw [h.gi (fun z => z)]; exact h3, rfl⟩
theorem MK.step {τ τ' : AH} {F : Nat → Bool} (h : MK Γ σ own mad S c τ F) (k : Chg (fun _ => False) (mJ (mad 9) (mad 7) (mad 8)) τ τ') : MK Γ σ own mad S c τ' (fam (sr (gj τ' (mad 9)) 0)) :=
  h.1.wk2 h.2.1 h.2.2.1 h.2.2.2.1 h.2.2.2.2.1 k
theorem MK.put {τ : AH} {F : Nat → Bool} {m : Nat} {K : AH → Prop} {KX : String → AH → Prop} (h : MK Γ σ own mad S c τ F) (hm : m < 4096) (k : ∀ τ', WF Γ τ' → MK Γ σ own mad S c τ' (fun x => F x || decide (x = m)) → K τ') (hd : 1 ≤ d) : CV Γ d MX9_put [.ref (mad 9), .int 0, .int (nI m)] τ K KX := by
  refine CV.of (d2 := 0) (mput_R (t := 0) (N := 7040) h.1.2.2.1.2.2.2.2.2.2.2.2.1 (by omega) (by omega) hm) (by omega) (fun σ1 W1 q => ?_)
  obtain ⟨f, e, -, q2⟩ := q
  have C : Chg (fun _ => False) (mJ (mad 9) (mad 7) (mad 8)) τ σ1 := by rw [e]; exact Chg.rowJ _ _ (Or.inl rfl)
  have h1 := h.step C
  have ee : fam (sr (gj σ1 (mad 9)) 0) = fun x => F x || decide (x = m) := by
    rw [e, gj_row]
    refine fam_ext (fun x hx => ?_) (fun x hx => ?_)
    · rcases Bool.or_eq_true _ _ ▸ hx with z | z
      · rw [← h.2.2.2.2.2] at z; exact fam_sup _ x z
      · rw [of_decide_eq_true z]; exact hm
    · rw [q2 x hx, ← h.2.2.2.2.2, fam_lt _ hx]
  rw [ee] at h1
  exact k σ1 W1 h1
/-- the first row in work empty -/
theorem mk_clear {τ : AH} {K : AH → Prop} {KX : String → AH → Prop} (R : RepM Γ τ own mad S c) (F : FR (RP MW own (lo Γ + hc σ)) σ τ) (h1 : hc τ = hc σ) (h2 : hv τ = hv σ) (h3 : gi τ (mad 0) 0 = 0) (k : ∀ τ', WF Γ τ' → MK Γ σ own mad S c τ' zf → K τ') (hd : 1 ≤ d) : CV Γ d MX9_clear [.ref (mad 9), .int 0] τ K KX := by
  refine CV.of (d2 := 0) (clear_R (t := 0) (N := 7040) R.2.2.1.2.2.2.2.2.2.2.2.1 (by omega) (by omega)) (by omega) (fun σ1 W1 q => ?_)
  obtain ⟨f, e, -, q2⟩ := q
  have C : Chg (fun _ => False) (mJ (mad 9) (mad 7) (mad 8)) τ σ1 := by rw [e]; exact Chg.rowJ _ _ (Or.inl rfl)
  have h1 := R.wk2 F h1 h2 h3 C
  have ee : fam (sr (gj σ1 (mad 9)) 0) = zf := by
    rw [e, gj_row]
    refine fam_ext sup_zf (fun x hx => ?_)
    rw [bs_congr (s := fun _ => 0) q2 hx]; exact w_zero _
  rw [ee] at h1
  exact k σ1 W1 h1
/-- the first row made a family -/
theorem MK.made {τ : AH} {F : Nat → Bool} {K : Int32 → AH → Prop} {KX : String → AH → Prop} (h : MK Γ σ own mad S c τ F) (hn : sN S < 200) (k : ∀ σ', gi σ' (mad 0) 0 = 0 → StepM Γ σ own mad c (stA S F) σ' → K (nI (sN S)) σ') (hd : 1 ≤ d) : CI Γ d MX9_made [.ref (mad 0)] τ K KX := by
  obtain ⟨R, F1, h1, h2, h3, h4⟩ := h
  have R' := R
  obtain ⟨O, x1, x2, x3, x4, x5, x6⟩ := R'
  obtain ⟨l, -, el⟩ := wb_of32 (sL S)
  refine CI.of (d2 := 0) (made_R (fa := mad 4) (wk := mad 9) (l := l) x1.1 x1.2.2.2.2.1 x1.2.2.2.2.2.2.2.2.2.1 x2.2.2.2.1 x2.2.2.2.2.2.2.2.2.1 (R.ne (by omega) (by omega) (by omega)) x3.2.2.2.1 (by rw [x3.2.2.2.2.1]; exact el) hn) (by omega) (fun r σ1 W1 q => ?_)
  obtain ⟨rfl, f, e, q1, q2⟩ := q
  have n0 : ∀ i, i < 12 → i ≠ 0 → mad i ≠ mad 0 := fun i hi z => R.ne hi (by omega) z
  have g0 : gi σ1 (mad 0) = up (up (gi τ (mad 0)) 6 (nI (sN S + 1))) 7 (nI (l + 1)) := by
    rw [e]
    exact (up_same _ _ _).trans (by rw [show gi (setI (rowJ τ (mad 4) f) (mad 0) 6 (nI (sN S + 1))) (mad 0) = up (gi τ (mad 0)) 6 (nI (sN S + 1)) from up_same _ _ _])
  have gn : ∀ i, i < 12 → i ≠ 0 → gi σ1 (mad i) = gi τ (mad i) := fun i hi z => by
    rw [e]
    exact (up_ne _ _ (n0 i hi z)).trans (up_ne _ _ (n0 i hi z))
  have gJ : gj σ1 (mad 4) = f := by rw [e]; exact gj_row _ _ _
  have FS : FR (MDs mad) τ σ1 := by
    rw [e]
    exact ((FR.rowJ _ _ ⟨4, by omega, rfl⟩).trans (FR.setI _ _ _ ⟨0, by omega, rfl⟩)).trans (FR.setI _ _ _ ⟨0, by omega, rfl⟩)
  have sF' : sup F := by rw [← h4]; exact fam_sup _
  have eF : fam (sr f (sN S)) = F := by
    refine fam_ext sF' (fun m hm => ?_)
    rw [← h4, fam_lt _ hm]
    exact bs_congr (fun w hw => by rw [q2 w hw]; show _ = gj τ (mad 9) (64 * 0 + w); rw [Nat.mul_zero, Nat.zero_add]) hm
  have R1 : RepM Γ σ1 own mad (stA S F) c := by
    refine R.ints FS (by rw [e]; rfl) (by rw [e]; rfl) ?_ ?_ (WS_A x6 hn sF')
    · unfold M3
      rw [g0]
      obtain ⟨y1, y2, y3, y4, y5, y6⟩ := x3
      refine ⟨((up_ne _ _ (by decide)).trans (up_ne _ _ (by decide))).trans y1, ((up_ne _ _ (by decide)).trans (up_ne _ _ (by decide))).trans y2, ((up_ne _ _ (by decide)).trans (up_ne _ _ (by decide))).trans y3, (up_ne _ _ (by decide)).trans (up_same _ _ _), (up_same _ _ _).trans ?_, ((up_ne _ _ (by decide)).trans (up_ne _ _ (by decide))).trans y6⟩
      show nI (l + 1) = sL S + 1
      rw [el, nI_1]
    · obtain ⟨y1, y2, y3, y4, y5, y6⟩ := x4
      refine ⟨?_, ?_, ?_, ?_, ?_, fun v hv' => ?_⟩
      · rw [gn 1 (by omega) (by omega)]; exact y1
      · rw [gn 2 (by omega) (by omega)]; exact y2
      · rw [gn 3 (by omega) (by omega)]; exact y3
      · rw [gn 5 (by omega) (by omega)]; exact y4
      · rw [gn 6 (by omega) (by omega)]; exact y5
      · rw [gJ]
        obtain ⟨v1, v2⟩ := okf_t.mp hv'
        have v1 : v < sN S + 1 := v1
        by_cases ev : v = sN S
        · rw [ev, eF]; exact (up_same _ _ _).symm
        · rw [show sF (stA S F) v = sF S v from up_ne _ _ ev, ← y6 v (okf_t.mpr ⟨by omega, v2⟩)]
          refine fam_ext (fam_sup _) (fun m hm => ?_)
          rw [fam_lt _ hm]
          exact blk_bs q1 ev hm
  refine k σ1 ?_ (StepM.same R1 (F1.trans ((FS.mono (fun _ z => R.md z)).mw (by rw [h1]))) (by rw [e]; exact h1) (by rw [e]; exact h2))
  rw [g0]
  exact ((up_ne _ _ (by decide)).trans (up_ne _ _ (by decide))).trans h3
end MT
