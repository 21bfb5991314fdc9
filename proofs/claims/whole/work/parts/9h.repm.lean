/-! THE MODEL's hold of the same state. -/
def OWm (own mad : Nat → Nat) (b : Nat) : Prop := ∀ i, i < 12 → own (mad i) = 51 + i ∧ mad i < b
def M1 (σ : AH) (mad : Nat → Nat) : Prop :=
  hs σ (mad 0) = some (7, 27) ∧ gr σ (mad 0) 1 = some (mad 1) ∧ gr σ (mad 0) 3 = some (mad 2) ∧ gr σ (mad 0) 8 = some (mad 3) ∧ gr σ (mad 0) 9 = some (mad 4) ∧ gr σ (mad 0) 10 = some (mad 5) ∧ gr σ (mad 0) 11 = some (mad 6) ∧ gr σ (mad 0) 13 = some (mad 7) ∧ gr σ (mad 0) 14 = some (mad 8) ∧ gr σ (mad 0) 15 = some (mad 9) ∧ gr σ (mad 0) 21 = some (mad 10) ∧ gr σ (mad 0) 22 = some (mad 11)
def M2 (σ : AH) (mad : Nat → Nat) : Prop :=
  hs σ (mad 1) = some (20, 200) ∧ hs σ (mad 2) = some (20, 1000) ∧ hs σ (mad 3) = some (21, 200) ∧ hs σ (mad 4) = some (23, 12800) ∧ hs σ (mad 5) = some (22, 12) ∧ hs σ (mad 6) = some (22, 300) ∧ hs σ (mad 7) = some (23, 4096) ∧ hs σ (mad 8) = some (23, 4096) ∧ hs σ (mad 9) = some (23, 7040) ∧ hs σ (mad 10) = some (22, 4096) ∧ hs σ (mad 11) = some (22, 200)
def M3 (σ : AH) (mad : Nat → Nat) (S : StT) : Prop :=
  gi σ (mad 0) 2 = nI (sTL S) ∧ gi σ (mad 0) 4 = nI (sOL S) ∧ gi σ (mad 0) 5 = sE S ∧ gi σ (mad 0) 6 = nI (sN S) ∧ gi σ (mad 0) 7 = sL S ∧ gi σ (mad 0) 12 = nI (sHL S)
def M4 (σ : AH) (mad : Nat → Nat) (S : StT) : Prop :=
  (∀ i, i < sTL S → gi σ (mad 1) i = sT S i) ∧ (∀ i, i < sOL S → gi σ (mad 2) i = sO S i) ∧ (∀ i, i < 200 → gi σ (mad 3) i = b2i (sR S i)) ∧ (∀ e, e < 12 → gi σ (mad 5) e = sK S e) ∧ (∀ i, i < sHL S → gi σ (mad 6) i = sH S i) ∧ ∀ f, okv S f = true → fam (sr (gj σ (mad 4)) f) = sF S f
/-- the roles of the node arrays -/
def NRo (r : Nat) : Prop := 71 ≤ r ∧ r ≤ 74
def M5 (σ : AH) (own mad : Nat → Nat) (c b : Nat) : Prop := ∃ tp lw hg sl, MSh σ (mad 0) tp lw hg sl c ∧ (NRo (own tp) ∧ NRo (own lw) ∧ NRo (own hg) ∧ NRo (own sl)) ∧ (tp < b ∧ lw < b ∧ hg < b ∧ sl < b)
def RepM (Γ : Gm) (σ : AH) (own mad : Nat → Nat) (S : StT) (c : Nat) : Prop := OWm own mad (lo Γ + hc σ) ∧ M1 σ mad ∧ M2 σ mad ∧ M3 σ mad S ∧ M4 σ mad S ∧ M5 σ own mad c (lo Γ + hc σ) ∧ WS S
/-- roles that the model's calls write -/
def MW (r : Nat) : Prop := 51 ≤ r ∧ r ≤ 74
def StepM (Γ : Gm) (σ : AH) (own mad : Nat → Nat) (c : Nat) (S' : StT) (σ' : AH) : Prop := ∃ own' c', RepM Γ σ' own' mad S' c' ∧ (∀ a, a < lo Γ + hc σ → own' a = own a) ∧ FR (RP MW own (lo Γ + hc σ)) σ σ' ∧ hc σ' + 4 * c ≤ hc σ + 4 * c' ∧ hv σ' + 7 * 2 ^ (c + 1) ≤ hv σ + 7 * 2 ^ (c' + 1) ∧ c ≤ c'
theorem OWm.ne {own mad : Nat → Nat} {b : Nat} (h : OWm own mad b) {i j : Nat} (hi : i < 12) (hj : j < 12) (ne : i ≠ j) : mad i ≠ mad j := fun e => by
  have a := (h i hi).1
  have c := (h j hj).1
  rw [e] at a
  omega
section RM
variable {Γ : Gm} {σ σ' : AH} {own own' mad : Nat → Nat} {S : StT} {c : Nat}
/-- the class's calls leave it alone -/
theorem RepM.keep {W : Nat → Prop} (R : RepM Γ σ own mad S c) (F : FR (RP W own (lo Γ + hc σ)) σ σ') (hW : ∀ r, W r → r < 51 ∨ 74 < r) (ho : ∀ a, a < lo Γ + hc σ → own' a = own a) : RepM Γ σ' own' mad S c := by
  obtain ⟨O, x1, x2, x3, x4, x5, x6⟩ := R
  have hle : lo Γ + hc σ ≤ lo Γ + hc σ' := Nat.add_le_add_left F.1 _
  have no : ∀ i, i < 12 → ¬ RP W own (lo Γ + hc σ) (mad i) := fun i hi => RP_no (O i hi).1 (O i hi).2 (fun z => by have := hW _ z; omega)
  refine ⟨fun i hi => ⟨by rw [ho _ (O i hi).2]; exact (O i hi).1, Nat.lt_of_lt_of_le (O i hi).2 hle⟩, ?_, ?_, ?_, ?_, ?_, x6⟩
  · obtain ⟨y0, y1, y2, y3, y4, y5, y6, y7, y8, y9, y10, y11⟩ := x1
    have g := F.gr (no 0 (by omega))
    exact ⟨F.gh y0, by rw [g]; exact y1, by rw [g]; exact y2, by rw [g]; exact y3, by rw [g]; exact y4, by rw [g]; exact y5, by rw [g]; exact y6, by rw [g]; exact y7, by rw [g]; exact y8, by rw [g]; exact y9, by rw [g]; exact y10, by rw [g]; exact y11⟩
  · obtain ⟨y1, y2, y3, y4, y5, y6, y7, y8, y9, y10, y11⟩ := x2
    exact ⟨F.gh y1, F.gh y2, F.gh y3, F.gh y4, F.gh y5, F.gh y6, F.gh y7, F.gh y8, F.gh y9, F.gh y10, F.gh y11⟩
  · unfold M3 at *
    rw [F.gi (no 0 (by omega))]; exact x3
  · unfold M4 at *
    rw [F.gi (no 1 (by omega)), F.gi (no 2 (by omega)), F.gi (no 3 (by omega)), F.gi (no 5 (by omega)), F.gi (no 6 (by omega)), F.gj (no 4 (by omega))]; exact x4
  · obtain ⟨tp, lw, hg, sl, ⟨N0, N1, N2, N3, N4, N5, N6, N7, N8, m, N9⟩, ⟨o1, o2, o3, o4⟩, l1, l2, l3, l4⟩ := x5
    have g := F.gr (no 0 (by omega))
    exact ⟨tp, lw, hg, sl, ⟨F.gh N0, by rw [g]; exact N1, by rw [g]; exact N2, by rw [g]; exact N3, by rw [g]; exact N4, F.gh N5, F.gh N6, F.gh N7, F.gh N8, m, N9⟩, ⟨by rw [ho _ l1]; exact o1, by rw [ho _ l2]; exact o2, by rw [ho _ l3]; exact o3, by rw [ho _ l4]; exact o4⟩, by omega, by omega, by omega, by omega⟩
/-- what the model answers: a value, and how it ended in field 0 -/
def ansM (A : AnsT) (mo : Nat) (oc : Oc) (σ' : AH) : Prop := oc = .inl (some (.int A.2.1)) ∧ gi σ' mo 0 = nI A.1
def CMN (Γ : Gm) (d : Nat) (M : MI) (vs : List Value) (σ : AH) (own mad : Nat → Nat) (c : Nat) (A : AnsT) : Prop := RUN Γ d M vs σ (fun oc σ' => ansM A (mad 0) oc σ' ∧ StepM Γ σ own mad c A.2.2 σ')
/-- field 0 set -/
theorem RepM.thrown {x : Int32} (R : RepM Γ σ own mad S c) : RepM Γ (setI σ (mad 0) 0 x) own mad S c ∧ FR (RP MW own (lo Γ + hc σ)) σ (setI σ (mad 0) 0 x) ∧ gi (setI σ (mad 0) 0 x) (mad 0) 0 = x := by
  obtain ⟨O, x1, x2, x3, x4, x5, x6⟩ := R
  have ne : ∀ i, i < 12 → i ≠ 0 → mad i ≠ mad 0 := fun i hi h => O.ne hi (by omega) h
  have g0 : gi (setI σ (mad 0) 0 x) (mad 0) = up (gi σ (mad 0)) 0 x := up_same _ _ _
  have ge : ∀ i, i < 12 → i ≠ 0 → gi (setI σ (mad 0) 0 x) (mad i) = gi σ (mad i) := fun i hi h => up_ne _ _ (ne i hi h)
  refine ⟨⟨O, x1, x2, ?_, ?_, x5, x6⟩, FR.setI _ _ _ (Or.inl (by rw [(O 0 (by omega)).1]; unfold MW; omega)), by rw [g0, up_same]⟩
  · unfold M3 at *
    rw [g0]
    obtain ⟨y1, y2, y3, y4, y5, y6⟩ := x3
    exact ⟨(up_ne _ _ (by decide)).trans y1, (up_ne _ _ (by decide)).trans y2, (up_ne _ _ (by decide)).trans y3, (up_ne _ _ (by decide)).trans y4, (up_ne _ _ (by decide)).trans y5, (up_ne _ _ (by decide)).trans y6⟩
  · unfold M4 at *
    rw [ge 1 (by omega) (by omega), ge 2 (by omega) (by omega), ge 3 (by omega) (by omega), ge 5 (by omega) (by omega), ge 6 (by omega) (by omega)]; exact x4
end RM
