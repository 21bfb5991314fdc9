/-! ROWS of FamilyStore: checks, and what a step leaves. -/
def ixF (f : Int32) : Nat := f.toBitVec.toNat
/-- 1 not created, 2 released, 0 there -/
def fcd (S : StT) (f : Int32) : Nat := if f < 0 ∨ nI (sN S) ≤ f then 1 else if sR S (ixF f) = true then 2 else 0
theorem fcd_cases (S : StT) (hn : sN S ≤ 200) (f : Int32) : (fcd S f = 1 ∧ (f < 0 ∨ (¬ f < 0 ∧ nI (sN S) ≤ f))) ∨ ∃ k, f = nI k ∧ ixF f = k ∧ k < sN S ∧ ((fcd S f = 2 ∧ sR S k = true) ∨ (fcd S f = 0 ∧ sR S k = false)) := by
  unfold fcd
  by_cases h1 : f < 0
  · exact Or.inl ⟨if_pos (Or.inl h1), Or.inl h1⟩
  · by_cases h2 : nI (sN S) ≤ f
    · exact Or.inl ⟨if_pos (Or.inr h2), Or.inr ⟨h1, h2⟩⟩
    · right
      obtain ⟨k, hk, rfl⟩ := nI_of h1
      have ei : ixF (nI k) = k := pk_tn (by omega)
      have lt : k < sN S := by
        rcases Nat.lt_or_ge k (sN S) with c | c
        · exact c
        · exact absurd ((nI_leI (by omega) hk).mpr c) h2
      refine ⟨k, rfl, ei, lt, ?_⟩
      rw [if_neg (fun z => z.elim h1 h2), ei]
      cases q : sR S k
      · exact Or.inr ⟨if_neg (by decide), rfl⟩
      · exact Or.inl ⟨if_pos rfl, rfl⟩
def IOB : String := "java/lang/IndexOutOfBoundsException"
def NSE : String := "java/util/NoSuchElementException"
def ISE : String := "java/lang/IllegalStateException"
def IAE : String := "java/lang/IllegalArgumentException"
def ARE : String := "java/lang/ArithmeticException"
/-- what a call of the class leaves -/
def StepC (Γ : Gm) (σ : AH) (own ad : Nat → Nat) (c w : Nat) (S' : StT) (σ' : AH) : Prop := ∃ own' c' w', RepC Γ σ' own' ad S' c' w' ∧ (∀ a, a < lo Γ + hc σ → own' a = own a) ∧ FR (RP CW own (lo Γ + hc σ)) σ σ' ∧ hc σ' + 4 * c + w' ≤ hc σ + 4 * c' + w + 8 ∧ hv σ' + 5 * 2 ^ (c + 1) + 64 * w' ≤ hv σ + 5 * 2 ^ (c' + 1) + 64 * w + 300 ∧ c ≤ c'
section HP
variable {Γ : Gm} {d : Nat} {σ : AH} {own ad : Nat → Nat} {S : StT} {c w : Nat}
theorem StepC.scr {σ' : AH} (R : RepC Γ σ own ad S c w) (hwf : WF Γ σ) (F : FR (RP SW own (lo Γ + hc σ)) σ σ') (h1 : hc σ' ≤ hc σ + 8) (h2 : hv σ' ≤ hv σ + 300) : StepC Γ σ own ad c w S σ' :=
  ⟨own, c, w, R.keep hwf F (fun r h => Or.inl h) (fun _ _ _ => rfl), fun _ _ => rfl, F.mono (fun a h => h.imp (fun z => z.cw) id), by omega, by omega, Nat.le_refl _⟩
theorem StepC.refl (R : RepC Γ σ own ad S c w) (hwf : WF Γ σ) : StepC Γ σ own ad c w S σ := StepC.scr R hwf (FR.refl _ _) (by omega) (by omega)
theorem StepC.thr (R : RepC Γ σ own ad S c w) (hwf : WF Γ σ) : StepC Γ σ own ad c w S (thr σ) := StepC.scr R hwf (FR.thr _ _) (by rw [hc_thr]; omega) (by rw [hv_thr]; omega)
theorem RepC.x0 (R : RepC Γ σ own ad S c w) : hs σ (ad 0) = some (6, 17) := R.2.1.1
theorem RepC.n (R : RepC Γ σ own ad S c w) : gi σ (ad 0) 6 = nI (sN S) ∧ sN S ≤ 200 := ⟨R.2.2.1.2.2.2.1, R.lt.2.2.1⟩
theorem cc_call {f : Int32} {K : AH → Prop} {KX : String → AH → Prop} (R : RepC Γ σ own ad S c w) (h1 : fcd S f = 1 → KX IOB (thr σ)) (h0 : fcd S f ≠ 1 → K σ) (hd : 7 ≤ d) : CV Γ d MX8_checkCreated [.ref (ad 0), .int f] σ K KX := by
  obtain ⟨g6, n2⟩ := R.n
  rcases fcd_cases S n2 f with ⟨e, hf⟩ | ⟨k, rfl, ei, hk, e⟩
  · refine CALL.ofX (d2 := 6) (E := IOB) (P := fun σ' => σ' = thr σ) ?_ (by omega) (fun σ1 _ q => by rw [q]; exact h1 e)
    refine eX8_checkCreated ⟨fun z => gX8_checkCreated_19 ⟨by omega, rfl, rfl⟩, fun z => ⟨R.x0, fun y => gX8_checkCreated_19 ⟨by omega, rfl, rfl⟩, fun y => ?_⟩⟩
    rcases hf with q | q
    · exact absurd q z
    · rw [g6] at y; exact absurd q.2 y
  · refine CV.of (d2 := 6) (P := fun σ' => σ' = σ) ?_ (by omega) (fun σ1 _ q => by rw [q]; exact h0 (by rcases e with e | e <;> omega))
    refine eX8_checkCreated ⟨fun z => absurd z (nn0 (by omega)), fun z => ⟨R.x0, fun y => absurd (by rw [g6] at y; exact (nI_leI (by omega) (by omega)).mp y) (by omega), fun y => ⟨fun _ => ⟨rfl, rfl⟩, fun v => absurd ((nI_ltI (b := 200) (by omega) (by omega)).mpr (by omega)) v⟩⟩⟩
theorem room_call {K : AH → Prop} {KX : String → AH → Prop} (R : RepC Γ σ own ad S c w) (h1 : sN S = 200 → KX ISE (thr σ)) (h0 : sN S < 200 → K σ) (hd : 7 ≤ d) : CV Γ d MX8_checkRoom [.ref (ad 0)] σ K KX := by
  obtain ⟨g6, n2⟩ := R.n
  by_cases hn : sN S < 200
  · refine CV.of (d2 := 6) (P := fun σ' => σ' = σ) ?_ (by omega) (fun σ1 _ q => by rw [q]; exact h0 hn)
    exact eX8_checkRoom ⟨R.x0, fun _ => ⟨rfl, rfl⟩, fun v => absurd (by rw [g6]; exact (nI_ltI (b := 200) (by omega) (by omega)).mpr hn) v⟩
  · refine CALL.ofX (d2 := 6) (E := ISE) (P := fun σ' => σ' = thr σ) ?_ (by omega) (fun σ1 _ q => by rw [q]; exact h1 (by omega))
    exact eX8_checkRoom ⟨R.x0, fun v => absurd (by rw [g6] at v; exact (nI_ltI (b := 200) (by omega) (by omega)).mp v) hn, fun _ => ⟨by omega, rfl, rfl⟩⟩
theorem mask_call {x : Int32} {y : Nat} {K : AH → Prop} {KX : String → AH → Prop} (h1 : ¬ isM x → KX IAE (thr σ)) (h0 : isM x → K σ) (hd : 7 ≤ d) : CV Γ d MX8_checkMask [.ref y, .int x] σ K KX := by
  by_cases hx : isM x
  · refine CV.of (d2 := 6) (P := fun σ' => σ' = σ) ?_ (by omega) (fun σ1 _ q => by rw [q]; exact h0 hx)
    obtain ⟨e, he, rfl⟩ := isM_of hx
    exact eX8_checkMask ⟨fun z => absurd z hx.1, fun _ => ⟨fun _ => ⟨rfl, rfl⟩, fun z => absurd ((nI_ltI (b := 4096) (by omega) (by omega)).mpr he) z⟩⟩
  · refine CALL.ofX (d2 := 6) (E := IAE) (P := fun σ' => σ' = thr σ) ?_ (by omega) (fun σ1 _ q => by rw [q]; exact h1 hx)
    refine eX8_checkMask ⟨fun _ => gX8_checkMask_11 ⟨by omega, rfl, rfl⟩, fun z => ⟨fun q => absurd ⟨z, fun v => ?_⟩ hx, fun _ => gX8_checkMask_11 ⟨by omega, rfl, rfl⟩⟩⟩
    rw [Int32.le_iff_toInt_le] at v
    rw [Int32.lt_iff_toInt_lt] at q
    omega
/-- a family asked for -/
def FoundF (σ : AH) (own : Nat → Nat) (b : Nat) (S : StT) (f : Int32) (fo : Nat) : Prop := ∃ row k, fcd S f = 0 ∧ f = nI (ixF f) ∧ okv S (ixF f) = true ∧ ixF f < 200 ∧ sup (sF S (ixF f)) ∧ hs σ fo = some (4, 3) ∧ gr σ fo 0 = some row ∧ hs σ row = some (23, 64) ∧ fam (gj σ row) = sF S (ixF f) ∧ gi σ fo 1 = nI (cntF (sF S (ixF f))) ∧ gi σ fo 2 = nI k ∧ k < 2 ^ 20 ∧ cardN (NP (sF S (ixF f))) k ∧ own fo = 26 ∧ own row = 25 ∧ fo < b ∧ row < b
theorem fo_call {f : Int32} {K : Nat → AH → Prop} {KX : String → AH → Prop} (R : RepC Γ σ own ad S c w) (h1 : fcd S f = 1 → KX IOB (thr σ)) (h2 : fcd S f = 2 → KX NSE (thr σ)) (h0 : ∀ fo, FoundF σ own (lo Γ + hc σ) S f fo → K fo σ) (hd : 8 ≤ d) : CR Γ d MX8_familyOf [.ref (ad 0), .int f] σ K KX := by
  have R' := R
  obtain ⟨O, x1, x2, x3, x4, x5, x6, x7, x8, x9⟩ := R'
  obtain ⟨g6, n2⟩ := R.n
  rcases fcd_cases S n2 f with ⟨e, hf⟩ | ⟨k, rfl, ei, hk, ⟨e, er⟩ | ⟨e, er⟩⟩
  · refine CALL.ofX (d2 := 7) (E := IOB) (P := fun σ' => σ' = thr σ) ?_ (by omega) (fun σ1 _ q => by rw [q]; exact h1 e)
    exact eX8_familyOf ⟨R.x0, cc_call R (fun _ => ⟨rfl, rfl⟩) (fun z => absurd e z) (by omega)⟩
  · refine CALL.ofX (d2 := 7) (E := NSE) (P := fun σ' => σ' = thr σ) ?_ (by omega) (fun σ1 _ q => by rw [q]; exact h2 e)
    refine eX8_familyOf ⟨R.x0, cc_call R (fun z => by omega) (fun _ => ⟨R.x0, ad 3, x1.2.2.2.1, 200, x1.2.2.2.2.2.2.2.2.2.2.2.2.2.2.1, k, IXn (by omega) (by omega), fun _ => ⟨by omega, rfl, rfl⟩, fun t ht => ?_⟩) (by omega)⟩
    have : okv S k = false := by
      cases q : okv S k
      · rfl
      · have := (okf_t.mp q).2
        rw [er] at this; exact absurd this (by decide)
    rw [(x6 k (by omega)).1 this] at ht
    exact absurd ht (by simp)
  · have ok : okv S k = true := okf_t.mpr ⟨hk, er⟩
    obtain ⟨fo, row, kk, y1, y2, y3, y4, y5, y6, y7, y8, y9, y10, y11, y12, y13⟩ := (x6 k (by omega)).2 ok
    refine CR.of (d2 := 7) (P := fun r σ' => σ' = σ ∧ r = some fo) ?_ (by omega) (fun r σ1 _ q => ⟨fo, q.2, ?_⟩)
    · refine eX8_familyOf ⟨R.x0, cc_call R (fun z => by omega) (fun _ => ⟨R.x0, ad 3, x1.2.2.2.1, 200, x1.2.2.2.2.2.2.2.2.2.2.2.2.2.2.1, k, IXn (by omega) (by omega), fun z => ?_, fun t ht => ⟨some t, rfl, rfl, ?_⟩⟩) (by omega)⟩
      · rw [y1] at z; exact absurd z (by simp)
      · rw [y1] at ht; exact ht.symm
    · rw [q.1]
      refine h0 fo ⟨row, kk, e, by rw [ei], by rw [ei]; exact ok, by rw [ei]; omega, by rw [ei]; exact x9.2.2.2.2.2.1 k ok, y2, y3, y4, by rw [ei]; exact y5, by rw [ei]; exact y6, y7, y8, by rw [ei]; exact y9, y10, y11, y12, y13⟩
end HP

