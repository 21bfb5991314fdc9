/-! THE STATE that both sides stand for, and how the class holds it. -/
/-- text, its length; error; output, its length; created; released; live; families; costs; listed, how many -/
abbrev StT : Type := (Nat → Int32) × Nat × Int32 × (Nat → Int32) × Nat × Nat × (Nat → Bool) × Int32 × (Nat → Nat → Bool) × (Nat → Int32) × (Nat → Int32) × Nat
def sT (S : StT) : Nat → Int32 := S.1
def sTL (S : StT) : Nat := S.2.1
def sE (S : StT) : Int32 := S.2.2.1
def sO (S : StT) : Nat → Int32 := S.2.2.2.1
def sOL (S : StT) : Nat := S.2.2.2.2.1
def sN (S : StT) : Nat := S.2.2.2.2.2.1
def sR (S : StT) : Nat → Bool := S.2.2.2.2.2.2.1
def sL (S : StT) : Int32 := S.2.2.2.2.2.2.2.1
def sF (S : StT) : Nat → Nat → Bool := S.2.2.2.2.2.2.2.2.1
def sK (S : StT) : Nat → Int32 := S.2.2.2.2.2.2.2.2.2.1
def sH (S : StT) : Nat → Int32 := S.2.2.2.2.2.2.2.2.2.2.1
def sHL (S : StT) : Nat := S.2.2.2.2.2.2.2.2.2.2.2
def okv (S : StT) : Nat → Bool := okf (sN S) (sR S)
def stA (S : StT) (F : Nat → Bool) : StT := (sT S, sTL S, sE S, sO S, sOL S, sN S + 1, sR S, sL S + 1, up (sF S) (sN S) F, sK S, sH S, sHL S)
def stR (S : StT) (f : Nat) : StT := (sT S, sTL S, sE S, sO S, sOL S, sN S, up (sR S) f true, sL S - 1, sF S, sK S, sH S, sHL S)
/-- what always holds of it -/
def WS (S : StT) : Prop := sTL S ≤ 200 ∧ sOL S ≤ 1000 ∧ sN S ≤ 200 ∧ sHL S ≤ 300 ∧ (∀ i, sN S ≤ i → sR S i = false) ∧ (∀ f, okv S f = true → sup (sF S f)) ∧ (∀ e, e < 12 → -1000 ≤ (sK S e).toInt ∧ (sK S e).toInt ≤ 1000) ∧ ∀ i, i < sTL S → by8 (sT S i)
theorem okf_t {n : Nat} {rel : Nat → Bool} {f : Nat} : okf n rel f = true ↔ (f < n ∧ rel f = false) := by
  unfold okf
  rw [Bool.and_eq_true, decide_eq_true_iff, Bool.not_eq_true']
/-! the class -/
def OWc (own ad : Nat → Nat) (b : Nat) : Prop := ∀ i, i < 20 → own (ad i) = i + 1 ∧ ad i < b
def C1 (σ : AH) (ad : Nat → Nat) : Prop :=
  hs σ (ad 0) = some (6, 17) ∧ gr σ (ad 0) 0 = some (ad 1) ∧ gr σ (ad 0) 3 = some (ad 2) ∧ gr σ (ad 0) 5 = some (ad 3) ∧ gr σ (ad 0) 8 = some (ad 4) ∧ gr σ (ad 0) 9 = some (ad 5) ∧ gr σ (ad 0) 10 = some (ad 6) ∧ gr σ (ad 0) 11 = some (ad 9) ∧ gr σ (ad 0) 12 = some (ad 10) ∧ gr σ (ad 0) 13 = some (ad 13) ∧ gr σ (ad 0) 14 = some (ad 15) ∧ gr σ (ad 0) 15 = some (ad 19) ∧ hs σ (ad 1) = some (20, 200) ∧ hs σ (ad 2) = some (20, 1000) ∧ hs σ (ad 3) = some (25, 200) ∧ hs σ (ad 19) = some (22, 300) ∧ AlgOK σ (ad 6) (ad 4) (ad 5) (ad 7) (ad 8)
def C2 (σ : AH) (ad : Nat → Nat) (S : StT) : Prop :=
  gi σ (ad 0) 1 = nI (sTL S) ∧ gi σ (ad 0) 2 = sE S ∧ gi σ (ad 0) 4 = nI (sOL S) ∧ gi σ (ad 0) 6 = nI (sN S) ∧ gi σ (ad 0) 7 = sL S ∧ gi σ (ad 0) 16 = nI (sHL S) ∧ (∀ i, i < sTL S → gi σ (ad 1) i = sT S i) ∧ (∀ i, i < sOL S → gi σ (ad 2) i = sO S i) ∧ ∀ i, i < sHL S → gi σ (ad 19) i = sH S i
def C3 (σ : AH) (ad : Nat → Nat) : Prop := hs σ (ad 10) = some (5, 10) ∧ gr σ (ad 10) 0 = some (ad 11) ∧ gr σ (ad 10) 1 = some (ad 12) ∧ hs σ (ad 11) = some (22, 200) ∧ hs σ (ad 12) = some (22, 200)
/-- a family that is there -/
def FamAt (σ : AH) (own : Nat → Nat) (fm b f : Nat) (F : Nat → Bool) : Prop := ∃ fo row k, gr σ fm f = some fo ∧ hs σ fo = some (4, 3) ∧ gr σ fo 0 = some row ∧ hs σ row = some (23, 64) ∧ fam (gj σ row) = F ∧ gi σ fo 1 = nI (cntF F) ∧ gi σ fo 2 = nI k ∧ k < 2 ^ 20 ∧ cardN (NP F) k ∧ own fo = 26 ∧ own row = 25 ∧ fo < b ∧ row < b
def C6 (σ : AH) (own ad : Nat → Nat) (b : Nat) (S : StT) : Prop := ∀ f, f < 200 → (okv S f = false → gr σ (ad 3) f = none) ∧ (okv S f = true → FamAt σ own (ad 3) b f (sF S f))
def C7 (σ : AH) (own ad : Nat → Nat) (S : StT) (c : Nat) : Prop := ∃ ke us me pl nx K den cnt v, DV σ (ad 9) (ad 4) ke us me pl c nx K den cnt v ∧ (own us = 21 ∧ own me = 22 ∧ own pl = 23 ∧ own ke = 24) ∧ (∀ i, 2 ≤ i → i < nx → cnt i = ctp (fun f => okv S f = true ∧ NP (sF S f) (den i)) 200) ∧ (∀ i, cnt i ≤ 200) ∧ v ≤ sN S + ctp (fun f => sR S f = true) 200 ∧ lowc K nx ≤ 511 * v ∧ ∀ f g, okv S f = true → NP (sF S f) g → ∃ i, 2 ≤ i ∧ i < nx ∧ den i = g
def RepC (Γ : Gm) (σ : AH) (own ad : Nat → Nat) (S : StT) (c w : Nat) : Prop :=
  OWc own ad (lo Γ + hc σ) ∧ C1 σ ad ∧ C2 σ ad S ∧ C3 σ ad ∧ CostOK σ (ad 15) (ad 16) (ad 17) (ad 18) (sK S) ∧ CalOK σ own (ad 13) (ad 14) ∧ C6 σ own ad (lo Γ + hc σ) S ∧ C7 σ own ad S c ∧ w = nnr σ (ad 14) ∧ WS S
/-! what stays -/
theorem OWc.to {own own' ad : Nat → Nat} {b b' : Nat} (h : OWc own ad b) (ho : ∀ a, a < b → own a ≠ 99 → own' a = own a) (hb : b ≤ b') : OWc own' ad b' := fun i hi => ⟨by rw [ho _ (h i hi).2 (by rw [(h i hi).1]; omega)]; exact (h i hi).1, Nat.lt_of_lt_of_le (h i hi).2 hb⟩
theorem OWc.ne {own ad : Nat → Nat} {b : Nat} (h : OWc own ad b) {i j : Nat} (hi : i < 20) (hj : j < 20) (ne : i ≠ j) : ad i ≠ ad j := fun e => by
  have a := (h i hi).1
  have c := (h j hj).1
  rw [e] at a
  omega
theorem OWc.no {own ad : Nat → Nat} {b : Nat} {W : Nat → Prop} (h : OWc own ad b) {i : Nat} (hi : i < 20) (hW : ¬ W (i + 1)) : ¬ RP W own b (ad i) := RP_no (h i hi).1 (h i hi).2 hW
theorem C1.fr {P : Nat → Prop} {σ σ' : AH} {ad : Nat → Nat} (C : C1 σ ad) (F : FR P σ σ') (h0 : ¬ P (ad 0)) (h6 : ¬ P (ad 6)) : C1 σ' ad := by
  obtain ⟨x0, x1, x2, x3, x4, x5, x6, x7, x8, x9, x10, x11, x12, x13, x14, x15, x16⟩ := C
  have g := F.gr h0
  exact ⟨F.gh x0, by rw [g]; exact x1, by rw [g]; exact x2, by rw [g]; exact x3, by rw [g]; exact x4, by rw [g]; exact x5, by rw [g]; exact x6, by rw [g]; exact x7, by rw [g]; exact x8, by rw [g]; exact x9, by rw [g]; exact x10, by rw [g]; exact x11, F.gh x12, F.gh x13, F.gh x14, F.gh x15, x16.fr F h6⟩
theorem C2.fr {P : Nat → Prop} {σ σ' : AH} {ad : Nat → Nat} {S : StT} (C : C2 σ ad S) (F : FR P σ σ') (h0 : ¬ P (ad 0)) (h1 : ¬ P (ad 1)) (h2 : ¬ P (ad 2)) (h19 : ¬ P (ad 19)) : C2 σ' ad S := by
  unfold C2 at *
  rw [F.gi h0, F.gi h1, F.gi h2, F.gi h19]
  exact C
theorem C3.fr {P : Nat → Prop} {σ σ' : AH} {ad : Nat → Nat} (C : C3 σ ad) (F : FR P σ σ') (h : ¬ P (ad 10)) : C3 σ' ad := by
  obtain ⟨x0, x1, x2, x3, x4⟩ := C
  have g := F.gr h
  exact ⟨F.gh x0, by rw [g]; exact x1, by rw [g]; exact x2, F.gh x3, F.gh x4⟩
theorem CostOK.fr {P : Nat → Prop} {σ σ' : AH} {co ea lw upp : Nat} {c : Nat → Int32} (C : CostOK σ co ea lw upp c) (F : FR P σ σ') (h0 : ¬ P co) (h1 : ¬ P ea) (h2 : ¬ P lw) (h3 : ¬ P upp) : CostOK σ' co ea lw upp c := by
  obtain ⟨x0, x1, x2, x3, x4, x5, x6, n1, n2, n3, x7, x8, x9⟩ := C
  have g := F.gr h0
  exact ⟨F.gh x0, by rw [g]; exact x1, by rw [g]; exact x2, by rw [g]; exact x3, F.gh x4, F.gh x5, F.gh x6, n1, n2, n3, by rw [F.gi h1]; exact x7, by rw [F.gi h2]; exact x8, by rw [F.gi h3]; exact x9⟩
theorem CalOK.fr {P : Nat → Prop} {σ σ' : AH} {own own' : Nat → Nat} {ca ra b : Nat} (C : CalOK σ own ca ra) (F : FR P σ σ') (h0 : ¬ P ca) (h1 : ¬ P ra) (ho : ∀ a, a < b → own a ≠ 99 → own' a = own a) (hb : ∀ a x, hs σ a = some x → a < b) : CalOK σ' own' ca ra := by
  obtain ⟨x0, x1, x2, x3⟩ := C
  refine ⟨F.gh x0, by rw [F.gr h0]; exact x1, F.gh x2, fun k t hk ht => ?_⟩
  rw [F.gr h1] at ht
  obtain ⟨a, b⟩ := x3 k t hk ht
  exact ⟨F.gh a, by rw [ho t (hb t _ a) (by rw [b]; omega)]; exact b⟩
theorem FamAt.fr {P : Nat → Prop} {σ σ' : AH} {own own' : Nat → Nat} {fm b b' f : Nat} {F : Nat → Bool} (h : FamAt σ own fm b f F) (Fr : FR P σ σ') (h0 : ¬ P fm) (h1 : ∀ a, a < b → (own a = 25 ∨ own a = 26) → ¬ P a) (ho : ∀ a, a < b → own a ≠ 99 → own' a = own a) (hb : b ≤ b') : FamAt σ' own' fm b' f F := by
  obtain ⟨fo, row, k, x1, x2, x3, x4, x5, x6, x7, x8, x9, x10, x11, x12, x13⟩ := h
  have nf := h1 fo x12 (Or.inr x10)
  have nr := h1 row x13 (Or.inl x11)
  exact ⟨fo, row, k, by rw [Fr.gr h0]; exact x1, Fr.gh x2, by rw [Fr.gr nf]; exact x3, Fr.gh x4, by rw [Fr.gj nr]; exact x5, by rw [Fr.gi nf]; exact x6, by rw [Fr.gi nf]; exact x7, x8, x9, by rw [ho _ x12 (by rw [x10]; decide)]; exact x10, by rw [ho _ x13 (by rw [x11]; decide)]; exact x11, by omega, by omega⟩
theorem C6.fr {P : Nat → Prop} {σ σ' : AH} {own own' ad : Nat → Nat} {b b' : Nat} {S : StT} (h : C6 σ own ad b S) (Fr : FR P σ σ') (h0 : ¬ P (ad 3)) (h1 : ∀ a, a < b → (own a = 25 ∨ own a = 26) → ¬ P a) (ho : ∀ a, a < b → own a ≠ 99 → own' a = own a) (hb : b ≤ b') : C6 σ' own' ad b' S := fun f hf =>
  ⟨fun z => by rw [Fr.gr h0]; exact (h f hf).1 z, fun z => ((h f hf).2 z).fr Fr h0 h1 ho hb⟩
theorem DV.fr {P : Nat → Prop} {σ σ' : AH} {dg pa ke us me pl c nx v : Nat} {K : Nat → Nat × Nat × Nat} {den : Nat → Nat → Bool} {cnt : Nat → Nat} (V : DV σ dg pa ke us me pl c nx K den cnt v) (F : FR P σ σ') (h0 : ¬ P dg) (h1 : ¬ P ke) (h2 : ¬ P us) (h3 : ¬ P me) (h4 : ¬ P pl) : DV σ' dg pa ke us me pl c nx K den cnt v := by
  obtain ⟨D, Vk, Vn, Vv, Vu, Vc, Vm, Vi⟩ := V
  obtain ⟨D0, D1, D2, D3, D4, D5, D6, D7, D8, D9, D10, n1, n2, n3, n4, n5, n6, D11, D12, D13, D14, D15, D16, D17, D18⟩ := D
  refine ⟨?_, by rw [F.gj h1]; exact Vk, Vn, by rw [F.gi h0]; exact Vv, by rw [F.gi h2]; exact Vu, Vc, by rw [F.gi h3]; exact Vm, by rw [F.gi h0]; exact Vi⟩
  unfold DG
  rw [F.gr h0, F.gi h0, F.gi h2, F.gi h3, F.gi h4, F.gj h1]
  exact ⟨F.gh D0, D1, D2, D3, D4, D5, F.gh D6, F.gh D7, F.gh D8, F.gh D9, F.gh D10, n1, n2, n3, n4, n5, n6, D11, D12, D13, D14, D15, D16, D17, D18⟩
theorem DV.sh {σ : AH} {dg pa ke us me pl c nx v : Nat} {K : Nat → Nat × Nat × Nat} {den : Nat → Nat → Bool} {cnt : Nat → Nat} (V : DV σ dg pa ke us me pl c nx K den cnt v) : hs σ ke = some (23, 2 ^ c) ∧ hs σ us = some (22, 2 ^ c) ∧ hs σ me = some (22, 2 ^ c) ∧ hs σ pl = some (22, 2 ^ (c + 1)) ∧ hs σ dg = some (3, 8) := by
  obtain ⟨D, -⟩ := V
  obtain ⟨D0, D1, D2, D3, D4, D5, D6, D7, D8, D9, D10, -⟩ := D
  exact ⟨D7, D8, D9, D10, D0⟩
theorem C7.fr {P : Nat → Prop} {σ σ' : AH} {own own' ad : Nat → Nat} {b c : Nat} {S : StT} (h : C7 σ own ad S c) (F : FR P σ σ') (h0 : ¬ P (ad 9)) (h1 : ∀ a, a < b → (21 ≤ own a ∧ own a ≤ 24) → ¬ P a) (ho : ∀ a, a < b → own a ≠ 99 → own' a = own a) (hb : ∀ a x, hs σ a = some x → a < b) : C7 σ' own' ad S c := by
  obtain ⟨ke, us, me, pl, nx, K, den, cnt, v, V, ⟨o1, o2, o3, o4⟩, rest⟩ := h
  obtain ⟨s1, s2, s3, s4, s5⟩ := V.sh
  exact ⟨ke, us, me, pl, nx, K, den, cnt, v, V.fr F h0 (h1 _ (hb _ _ s1) (by omega)) (h1 _ (hb _ _ s2) (by omega)) (h1 _ (hb _ _ s3) (by omega)) (h1 _ (hb _ _ s4) (by omega)), ⟨by rw [ho _ (hb _ _ s2) (by rw [o1]; decide)]; exact o1, by rw [ho _ (hb _ _ s3) (by rw [o2]; decide)]; exact o2, by rw [ho _ (hb _ _ s4) (by rw [o3]; decide)]; exact o3, by rw [ho _ (hb _ _ s1) (by rw [o4]; decide)]; exact o4⟩, rest⟩
/-- roles that the class's calls write -/
def CW (r : Nat) : Prop := (1 ≤ r ∧ r ≤ 24) ∨ (100 ≤ r ∧ r < 143)
/-- scratch -/
def SW (r : Nat) : Prop := r = 5 ∨ r = 6 ∨ r = 8 ∨ r = 9
theorem SW.cw {r : Nat} (h : SW r) : CW r := by unfold SW at h; unfold CW; omega
theorem RepC.keep {Γ : Gm} {σ σ' : AH} {own own' ad : Nat → Nat} {S : StT} {c w : Nat} {W : Nat → Prop} (R : RepC Γ σ own ad S c w) (hwf : WF Γ σ) (F : FR (RP W own (lo Γ + hc σ)) σ σ') (hW : ∀ r, W r → SW r ∨ (51 ≤ r ∧ r ≤ 99)) (ho : ∀ a, a < lo Γ + hc σ → own a ≠ 99 → own' a = own a) : RepC Γ σ' own' ad S c w := by
  obtain ⟨O, x1, x2, x3, x4, x5, x6, x7, x8, x9⟩ := R
  have hb : ∀ a x, hs σ a = some x → a < lo Γ + hc σ := hwf.1
  have no : ∀ i, i < 20 → ¬ SW (i + 1) → ¬ RP W own (lo Γ + hc σ) (ad i) := fun i hi h => O.no hi (fun z => (hW _ z).elim h (by omega))
  have n0 := no 0 (by omega) (by unfold SW; omega)
  have n1 := no 1 (by omega) (by unfold SW; omega)
  have n2 := no 2 (by omega) (by unfold SW; omega)
  have n3 := no 3 (by omega) (by unfold SW; omega)
  have n6 := no 6 (by omega) (by unfold SW; omega)
  have n9 := no 9 (by omega) (by unfold SW; omega)
  have n10 := no 10 (by omega) (by unfold SW; omega)
  have n13 := no 13 (by omega) (by unfold SW; omega)
  have n14 := no 14 (by omega) (by unfold SW; omega)
  have n15 := no 15 (by omega) (by unfold SW; omega)
  have n16 := no 16 (by omega) (by unfold SW; omega)
  have n17 := no 17 (by omega) (by unfold SW; omega)
  have n18 := no 18 (by omega) (by unfold SW; omega)
  have n19 := no 19 (by omega) (by unfold SW; omega)
  have hle : lo Γ + hc σ ≤ lo Γ + hc σ' := Nat.add_le_add_left F.1 _
  refine ⟨O.to ho hle, x1.fr F n0 n6, x2.fr F n0 n1 n2 n19, x3.fr F n10, x4.fr F n15 n16 n17 n18, x5.fr F n13 n14 ho hb, x6.fr F n3 (fun a ha h => RP_no rfl ha (fun z => ?_)) ho hle, x7.fr F n9 (fun a ha h => RP_no rfl ha (fun z => ?_)) ho hb, ?_, x9⟩
  · have := hW _ z
    unfold SW at this
    omega
  · have := hW _ z
    unfold SW at this
    omega
  · unfold nnr
    rw [F.gr n14]; exact x8
theorem RepC.lt {Γ : Gm} {σ : AH} {own ad : Nat → Nat} {S : StT} {c w : Nat} (R : RepC Γ σ own ad S c w) : WS S := R.2.2.2.2.2.2.2.2.2

