/-! ROWS of Calculator: pushFamily, apply, run. -/
def FamH (b : Nat) (σ0 : AH) (own0 : Nat → Nat) (fm : Nat) (ok : Nat → Bool) (FM : Nat → Nat → Bool) : Prop := hs σ0 fm = some (25, 200) ∧ own0 fm = 4 ∧ fm < b ∧ ∀ f, f < 200 → ok f = true → ∃ fo row, gr σ0 fm f = some fo ∧ hs σ0 fo = some (4, 3) ∧ gr σ0 fo 0 = some row ∧ hs σ0 row = some (23, 64) ∧ fam (gj σ0 row) = FM f ∧ own0 fo = 26 ∧ own0 row = 25 ∧ fo < b ∧ row < b
theorem RP_no {W : Nat → Prop} {own : Nat → Nat} {a b r : Nat} (h : own a = r) (hb : a < b) (hW : ¬ W r) : ¬ RP W own b a := fun z => z.elim (fun z => hW (by rw [← h]; exact z)) (fun z => by omega)
theorem fam_copy {f g : Nat → Int64} : fam (fl f g 64) = fam f := fam_ext (fam_sup _) (fun m hm => by rw [bs_fl hm, fam_lt _ hm])
section CA
variable {Γ : Gm} {d b : Nat} {σ0 τ : AH} {own0 own : Nat → Nat} {al f1 f2 sp st ca ra dp h : Nat} {S : Nat → Nat → Bool}
theorem cpushF_R {fm f : Nat} {ok : Nat → Bool} {FM : Nat → Nat → Bool} (hb : b = lo Γ + hc σ0) (I : CRI b σ0 own0 al f1 f2 sp st ca ra τ own h h S) (G : FamH b σ0 own0 fm ok FM) (hh : h < 43) (hf : f < 200) (hok : ok f = true) (hd : 3 ≤ d) : RV Γ d MX1_pushFamily [.ref ca, .ref fm, .int (nI f)] τ (fun τ' => ∃ own', CRI b σ0 own0 al f1 f2 sp st ca ra τ' own' (h + 1) (h + 1) (up S h (FM f))) := by
  obtain ⟨G0, G1, G2, G3⟩ := G
  obtain ⟨fo, row, g1, g2, g3, g4, g5, g6, g7, g8, g9⟩ := G3 f hf hok
  refine eX1_pushFamily ⟨I.2.1.1, CR.of (d2 := 2) (cpush_R hb I hh (by omega)) (by omega) (fun r σ1 hw q => ?_)⟩
  obtain ⟨t, own', rfl, I1, gt, gz⟩ := q
  have F := I1.2.2.1
  have nfm : ¬ RP cW own0 b fm := RP_no G1 G2 (by unfold cW; omega)
  have nfo : ¬ RP cW own0 b fo := RP_no g6 g8 (by unfold cW; omega)
  have nrow : ¬ RP cW own0 b row := RP_no g7 g9 (by unfold cW; omega)
  have tk := I1.2.1.2.2.2 h t hh gt
  refine ⟨t, rfl, fun z => absurd z (nn0 (by omega)), fun _ => ⟨200, F.gh G0, fun z => absurd ((nI_leI (a := 200) (b := f) (by omega) (by omega)).mp z) (by omega), fun _ => ⟨f, IXn hf (by omega), fun z => ?_, fun t10 z => ?_⟩⟩⟩
  · rw [F.gr nfm, g1] at z; exact absurd z (by simp)
  · rw [F.gr nfm, g1] at z
    have z := Option.some.inj z
    subst z
    refine ⟨F.gh g2, row, by rw [F.gr nfo]; exact g3, CV.of (d2 := 2) (copy_R (F.gh g4) tk.1 (by omega) (by omega) (by omega)) (by omega) (fun σ15 _ e => ⟨rfl, own', ?_⟩)⟩
    have := I1.wr (τ' := σ15) (k := h) (h' := h + 1) (F := FM f) hh gt (by omega) (by rw [e]; exact Chg.rowJ _ _ (Or.inr (Or.inr rfl))) (by rw [e, gj_row, fam_copy, F.gj nrow]; exact g5) (fun j hj => Or.inl hj)
    have e2 : up (up S h zf) h (FM f) = up S h (FM f) := by
      funext j
      unfold up
      split <;> rfl
    rw [e2] at this; exact this
theorem clsU_k : ∀ s, s < 14 → 10 ≤ s → isB1 (clsOp s) ∧ (nI (clsOp s) = 4 ∨ nI (clsOp s) = 5 ∨ nI (clsOp s) = 6 ∨ nI (clsOp s) = 7) := by
  intro s h1 h2
  have : s = 10 ∨ s = 11 ∨ s = 12 ∨ s = 13 := by omega
  rcases this with h | h | h | h <;> (subst h; exact ⟨by unfold isB1 clsOp; decide, by decide⟩)
theorem clsB_k : ∀ s, s < 10 → 1 ≤ s → isB2 (clsOp s) ∧ (isDiv (clsOp s) ↔ isDv s) ∧ (nI (clsOp s) ≠ 4 ∧ nI (clsOp s) ≠ 5 ∧ nI (clsOp s) ≠ 6 ∧ nI (clsOp s) ≠ 7) ∧ ((nI (clsOp s) = 47 ∨ nI (clsOp s) = 37) ↔ isDv s) := by
  intro s h1 h2
  have : s = 1 ∨ s = 2 ∨ s = 3 ∨ s = 4 ∨ s = 5 ∨ s = 6 ∨ s = 7 ∨ s = 8 ∨ s = 9 := by omega
  rcases this with h | h | h | h | h | h | h | h | h <;> (subst h; exact ⟨by unfold isB2 clsOp; decide, by unfold isDiv isDv clsOp; decide, by decide, by unfold isDv; decide⟩)
theorem CRI.ne {k t : Nat} (I : CRI b σ0 own0 al f1 f2 sp st ca ra τ own dp h S) (hk : k < 43) (ht : gr τ ra k = some t) : t ≠ sp ∧ t ≠ st ∧ hs τ t = some (23, 64) ∧ own t = 100 + k := by
  obtain ⟨I0, I1, I2, I3, ⟨w1, w2, w3, w4, w5, w6, w7, w8, w9, w10, w11, w12, w13, w14⟩, I5, I6, I7, I8⟩ := I
  obtain ⟨t1, t2⟩ := I1.2.2.2 k t hk ht
  exact ⟨fun z => by rw [z, I3 sp w7, w3] at t2; omega, fun z => by rw [z, I3 st w8, w4] at t2; omega, t1, t2⟩
theorem capply1_R {s k : Nat} (hb : b = lo Γ + hc σ0) (I : CRI b σ0 own0 al f1 f2 sp st ca ra τ own (k + 1) (k + 1) S) (hk : k + 1 ≤ 43) (h1 : 10 ≤ s) (h9 : s ≤ 13) (hd : 8 ≤ d) : RI Γ d MX1_apply [.ref ca, .int (nI (clsOp s)), .ref al] τ (fun r τ' => r = 1 ∧ ∃ own', CRI b σ0 own0 al f1 f2 sp st ca ra τ' own' (k + 1) (k + 1) (up S k (opF s (S k) (S k)))) := by
  obtain ⟨c1, c2⟩ := clsU_k s (by omega) h1
  have h22 : EV Γ MX1_apply d 22 [some (.ref ca), some (.int (nI (clsOp s))), some (.ref al), none] [] τ (fun oc τ' => ∃ r : Int32, oc = .inl (some (.int r)) ∧ r = 1 ∧ ∃ own', CRI b σ0 own0 al f1 f2 sp st ca ra τ' own' (k + 1) (k + 1) (up S k (opF s (S k) (S k)))) := by
    refine gX1_apply_22 ⟨I.2.1.1, ?_⟩
    rw [I.2.2.2.2.2.1, nI_pred]
    refine CR.of (d2 := 1) (crow_R hb I (by omega) (by omega)) (by omega) (fun r σ2 hw q => ?_)
    obtain ⟨t, own', rfl, I2, gt, -, -, e⟩ := q
    have e := e (by omega)
    subst e
    obtain ⟨u, u1, u2⟩ := I2.2.2.2.2.2.2.1 k (by omega)
    rw [gt] at u1
    have u1 := Option.some.inj u1
    subst u1
    obtain ⟨n1, n2, n3, n4⟩ := I2.ne (by omega) gt
    refine ⟨t, rfl, I2.1.1, CV.of (d2 := 6) (applyToOne_R I2.1 n3 n1 n2 c1 (by omega)) (by omega) (fun σ4 _ q => ⟨1, rfl, rfl, own', ?_⟩)⟩
    refine I2.wr (by omega) gt (by omega) q.1 ?_ (fun j hj => Or.inl hj)
    rw [← u2]
    exact opF_1 h1 h9 q.2
  refine eX1_apply ⟨fun _ => h22, fun n4 => ⟨fun _ => h22, fun n5 => ⟨fun _ => h22, fun n6 => ⟨fun n7 => ?_, fun _ => h22⟩⟩⟩⟩
  rcases c2 with z | z | z | z
  · exact absurd z n4
  · exact absurd z n5
  · exact absurd z n6
  · exact absurd z n7
theorem capply2_R {s k : Nat} (hb : b = lo Γ + hc σ0) (I : CRI b σ0 own0 al f1 f2 sp st ca ra τ own (k + 2) (k + 2) S) (hk : k + 2 ≤ 43) (h1 : 1 ≤ s) (h9 : s < 10) (hd : 10 ≤ d) : RI Γ d MX1_apply [.ref ca, .int (nI (clsOp s)), .ref al] τ (fun r τ' => ((isDv s ∧ cntF (S (k + 1)) = 0) ∧ r = 0 ∧ ∃ own', CRI b σ0 own0 al f1 f2 sp st ca ra τ' own' (k + 1) (k + 2) S) ∨ (¬ (isDv s ∧ cntF (S (k + 1)) = 0) ∧ r = 1 ∧ ∃ own', CRI b σ0 own0 al f1 f2 sp st ca ra τ' own' (k + 1) (k + 1) (up S k (opF s (S k) (S (k + 1)))))) := by
  obtain ⟨c1, c2, ⟨c3, c4, c5, c6⟩, c7⟩ := clsB_k s h9 h1
  refine eX1_apply ⟨fun z => absurd z c3, fun _ => ⟨fun z => absurd z c4, fun _ => ⟨fun z => absurd z c5, fun _ => ⟨fun _ => ⟨I.2.1.1, fun σ6 e6 => ?_⟩, fun z => absurd z c6⟩⟩⟩⟩
  rw [I.2.2.2.2.2.1, show k + 2 = (k + 1) + 1 from rfl, nI_pred] at e6
  have I6 := I.dep e6
  rw [I6.2.2.2.2.2.1]
  refine CR.of (d2 := 1) (crow_R hb I6 (by omega) (by omega)) (by omega) (fun r σ9 hw q => ?_)
  obtain ⟨t1, own1, rfl, I9, gt1, -, -, e⟩ := q
  have e := e (by omega)
  subst e
  obtain ⟨u, u1, u2⟩ := I9.2.2.2.2.2.2.1 (k + 1) (by omega)
  rw [gt1] at u1
  have u1 := Option.some.inj u1
  subst u1
  obtain ⟨n1, n2, n3, n4⟩ := I9.ne (by omega) gt1
  refine ⟨t1, rfl, ?_⟩
  have h79 : ¬ (isDv s ∧ cntF (S (k + 1)) = 0) → EV Γ MX1_apply d 79 [some (.ref ca), some (.int (nI (clsOp s))), some (.ref al), some (.ref t1)] [] σ9 (fun oc τ' => ∃ r : Int32, oc = .inl (some (.int r)) ∧ (((isDv s ∧ cntF (S (k + 1)) = 0) ∧ r = 0 ∧ ∃ own', CRI b σ0 own0 al f1 f2 sp st ca ra τ' own' (k + 1) (k + 2) S) ∨ (¬ (isDv s ∧ cntF (S (k + 1)) = 0) ∧ r = 1 ∧ ∃ own', CRI b σ0 own0 al f1 f2 sp st ca ra τ' own' (k + 1) (k + 1) (up S k (opF s (S k) (S (k + 1))))))) := by
    intro nd
    refine gX1_apply_79 ⟨I9.2.1.1, ?_⟩
    rw [I9.2.2.2.2.2.1, nI_pred]
    refine CR.of (d2 := 1) (crow_R hb I9 (by omega) (by omega)) (by omega) (fun r σ2 hw q => ?_)
    obtain ⟨t0, own2, rfl, I2, gt0, oth, -, e⟩ := q
    have e := e (by omega)
    subst e
    obtain ⟨u, u1, u3⟩ := I2.2.2.2.2.2.2.1 k (by omega)
    rw [gt0] at u1
    have u1 := Option.some.inj u1
    subst u1
    obtain ⟨m1, m2, m3, m4⟩ := I2.ne (by omega) gt0
    obtain ⟨_, _, _, n4'⟩ := I2.ne (by omega) gt1
    have n01 : t1 ≠ t0 := fun z => by rw [z, m4] at n4'; omega
    refine ⟨t0, rfl, I2.1.1, CV.of (d2 := 8) (applyToTwo_R I2.1 m3 n3 (by omega) m1 m2 n01 n1 c1 (fun z => ?_) (by omega)) (by omega) (fun σ4 _ q => ⟨1, rfl, Or.inr ⟨nd, rfl, own2, ?_⟩⟩)⟩
    · apply cntF_fam.mpr
      rw [u2]
      exact fun y => nd ⟨c2.mp z, y⟩
    · refine I2.wr (by omega) gt0 (by omega) q.1 ?_ (fun j hj => Or.inl (by omega))
      rw [← u3, ← u2]
      exact opF_2 h1 (by omega) q.2
  have h70 : isDv s → EV Γ MX1_apply d 70 [some (.ref ca), some (.int (nI (clsOp s))), some (.ref al), some (.ref t1)] [] σ9 (fun oc τ' => ∃ r : Int32, oc = .inl (some (.int r)) ∧ (((isDv s ∧ cntF (S (k + 1)) = 0) ∧ r = 0 ∧ ∃ own', CRI b σ0 own0 al f1 f2 sp st ca ra τ' own' (k + 1) (k + 2) S) ∨ (¬ (isDv s ∧ cntF (S (k + 1)) = 0) ∧ r = 1 ∧ ∃ own', CRI b σ0 own0 al f1 f2 sp st ca ra τ' own' (k + 1) (k + 1) (up S k (opF s (S k) (S (k + 1))))))) := by
    intro dv
    refine gX1_apply_70 (CI.of (d2 := 1) (size_R n3 (by omega) (by omega)) (by omega) (fun r σ1 _ q => ?_))
    obtain ⟨rfl, rfl⟩ := q
    rw [rct_fam, u2]
    have le := cntF_le (S (k + 1))
    refine ⟨fun z => h79 (fun y => z (by rw [y.2]; rfl)), fun z => ⟨0, rfl, Or.inl ⟨⟨dv, ?_⟩, rfl, own1, I9⟩⟩⟩
    exact (nI_eq (a := cntF (S (k + 1))) (b := 0) (by omega) (by omega)).mp z
  refine ⟨fun z => h70 (c7.mp (Or.inl z)), fun z => ⟨fun y => h79 (fun w => ?_), fun y => h70 (c7.mp (Or.inr y))⟩⟩
  rcases c7.mpr w.1 with v | v
  · exact z v
  · exact y v
end CA
