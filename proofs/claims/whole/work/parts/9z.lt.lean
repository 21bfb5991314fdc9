/-! THE LAW: both sides at once. -/
/-- cells and slots so far, against what the tables may take -/
def BD (σ : AH) (c w cm X Y : Nat) : Prop := hc σ + w ≤ X + 4 * c + 4 * cm ∧ hv σ + 64 * w ≤ Y + 5 * 2 ^ (c + 1) + 7 * 2 ^ (cm + 1)
/-- the class stands at S, the model at S2; the script, what the small methods answer into -/
def LT (Γ : Gm) (ad mad : Nat → Nat) (sc n oa od : Nat) (g : Nat → Int32) (S S2 : StT) (X Y : Nat) (σ : AH) : Prop := WF Γ σ ∧ ∃ own c w cm, RepC Γ σ own ad S c w ∧ RepM Γ σ own mad S2 cm ∧ (hs σ sc = some (28, n) ∧ own sc = 0 ∧ sc < lo Γ + hc σ ∧ gi σ sc = g) ∧ (hs σ oa = some (23, 1) ∧ own oa = 90 ∧ oa < lo Γ + hc σ) ∧ (hs σ od = some (24, 1) ∧ own od = 91 ∧ od < lo Γ + hc σ) ∧ BD σ c w cm X Y
theorem ix01 : IX 0 1 0 := IXn (n := 1) (j := 0) (by omega) (by omega)
section LTS
variable {Γ : Gm} {d : Nat} {σ : AH} {ad mad : Nat → Nat} {sc n oa od : Nat} {g : Nat → Int32} {S S2 : StT} {X Y : Nat}
theorem LT.wf (h : LT Γ ad mad sc n oa od g S S2 X Y σ) : WF Γ σ := h.1
theorem LT.hsS (h : LT Γ ad mad sc n oa od g S S2 X Y σ) : hs σ sc = some (28, n) := by
  obtain ⟨-, own, c, w, cm, -, -, z, -⟩ := h
  exact z.1
theorem LT.giS (h : LT Γ ad mad sc n oa od g S S2 X Y σ) : gi σ sc = g := by
  obtain ⟨-, own, c, w, cm, -, -, z, -⟩ := h
  exact z.2.2.2
theorem LT.hsA (h : LT Γ ad mad sc n oa od g S S2 X Y σ) : hs σ oa = some (23, 1) := by
  obtain ⟨-, own, c, w, cm, -, -, -, z, -⟩ := h
  exact z.1
theorem LT.hsD (h : LT Γ ad mad sc n oa od g S S2 X Y σ) : hs σ od = some (24, 1) := by
  obtain ⟨-, own, c, w, cm, -, -, -, -, z, -⟩ := h
  exact z.1
theorem LT.mo (h : LT Γ ad mad sc n oa od g S S2 X Y σ) : hs σ (mad 0) = some (7, 27) := by
  obtain ⟨-, own, c, w, cm, -, z, -⟩ := h
  exact z.2.1.1
theorem LT.co (h : LT Γ ad mad sc n oa od g S S2 X Y σ) : hs σ (ad 0) = some (6, 17) := by
  obtain ⟨-, own, c, w, cm, z, -⟩ := h
  exact z.x0
/-- a call of the class -/
theorem lt_stepC {own : Nat → Nat} {c w cm : Nat} {S' : StT} {σ' : AH} (W : WF Γ σ') (RM' : RepM Γ σ own mad S2 cm) (hsc : hs σ sc = some (28, n) ∧ own sc = 0 ∧ sc < lo Γ + hc σ ∧ gi σ sc = g) (hoa : hs σ oa = some (23, 1) ∧ own oa = 90 ∧ oa < lo Γ + hc σ) (hod : hs σ od = some (24, 1) ∧ own od = 91 ∧ od < lo Γ + hc σ) (B : BD σ c w cm X Y) (st : StepC Γ σ own ad c w S' σ') : LT Γ ad mad sc n oa od g S' S2 (X + 8) (Y + 300) σ' := by
  obtain ⟨own', c', w', R, ag, F, a, b, e⟩ := st
  have hle : lo Γ + hc σ ≤ lo Γ + hc σ' := Nat.add_le_add_left F.1 _
  have nsc : ¬ RP CW own (lo Γ + hc σ) sc := RP_no hsc.2.1 hsc.2.2.1 (by unfold CW; omega)
  refine ⟨W, own', c', w', cm, R, RM'.keep F (fun r h => by unfold CW at h; omega) ag, ⟨F.gh hsc.1, (ag _ hsc.2.2.1).trans hsc.2.1, by omega, (F.gi nsc).trans hsc.2.2.2⟩, ⟨F.gh hoa.1, (ag _ hoa.2.2).trans hoa.2.1, by omega⟩, ⟨F.gh hod.1, (ag _ hod.2.2).trans hod.2.1, by omega⟩, ?_⟩
  obtain ⟨b1, b2⟩ := B
  exact ⟨by omega, by omega⟩
/-- a call of the model -/
theorem lt_stepM {own : Nat → Nat} {c w cm : Nat} {S' : StT} {σ' : AH} (W : WF Γ σ) (W' : WF Γ σ') (RC' : RepC Γ σ own ad S c w) (hsc : hs σ sc = some (28, n) ∧ own sc = 0 ∧ sc < lo Γ + hc σ ∧ gi σ sc = g) (hoa : hs σ oa = some (23, 1) ∧ own oa = 90 ∧ oa < lo Γ + hc σ) (hod : hs σ od = some (24, 1) ∧ own od = 91 ∧ od < lo Γ + hc σ) (B : BD σ c w cm X Y) (st : StepM Γ σ own mad cm S' σ') : LT Γ ad mad sc n oa od g S S' X Y σ' ∧ gj σ' oa = gj σ oa ∧ gd σ' od = gd σ od := by
  obtain ⟨own', cm', R, ag, F, a, b, e⟩ := st
  have hle : lo Γ + hc σ ≤ lo Γ + hc σ' := Nat.add_le_add_left F.1 _
  have nsc : ¬ RP MW own (lo Γ + hc σ) sc := RP_no hsc.2.1 hsc.2.2.1 (by unfold MW; omega)
  have noa : ¬ RP MW own (lo Γ + hc σ) oa := RP_no hoa.2.1 hoa.2.2 (by unfold MW; omega)
  have nod : ¬ RP MW own (lo Γ + hc σ) od := RP_no hod.2.1 hod.2.2 (by unfold MW; omega)
  refine ⟨⟨W', own', c, w, cm', RC'.keep W F (fun r h => by unfold MW at h; omega) (fun a ha _ => ag a ha), R, ⟨F.gh hsc.1, (ag _ hsc.2.2.1).trans hsc.2.1, by omega, (F.gi nsc).trans hsc.2.2.2⟩, ⟨F.gh hoa.1, (ag _ hoa.2.2).trans hoa.2.1, by omega⟩, ⟨F.gh hod.1, (ag _ hod.2.2).trans hod.2.1, by omega⟩, ?_⟩, F.gj noa, F.gd nod⟩
  obtain ⟨b1, b2⟩ := B
  exact ⟨by omega, by omega⟩
theorem lt_setJ {σ' : AH} {x : Int64} (h : LT Γ ad mad sc n oa od g S S2 X Y σ) (e : σ' = setJ σ oa 0 x) : LT Γ ad mad sc n oa od g S S2 X Y σ' ∧ gj σ' oa 0 = x := by
  obtain ⟨W, own, c, w, cm, R, M, hsc, hoa, hod, B⟩ := h
  have F : FR (RP (fun r => r = 90) own (lo Γ + hc σ)) σ σ' := by rw [e]; exact FR.setJ _ _ _ (Or.inl hoa.2.1)
  have W' : WF Γ σ' := by rw [e]; exact W.upd hoa.1 (by omega) rfl rfl (fun b hb => up_ne _ _ hb)
  refine ⟨⟨W', own, c, w, cm, R.keep W F (fun r z => Or.inr (by omega)) (fun _ _ _ => rfl), M.keep F (fun r z => by omega) (fun _ _ => rfl), ?_, ?_, ?_, ?_⟩, ?_⟩
  · rw [e]; exact hsc
  · rw [e]; exact hoa
  · rw [e]; exact hod
  · rw [e]; exact B
  · rw [e]
    exact (congrFun (up_same _ _ _) 0).trans (up_same _ _ _)
theorem lt_setD {σ' : AH} {x : UInt64} (h : LT Γ ad mad sc n oa od g S S2 X Y σ) (e : σ' = setD σ od 0 x) : LT Γ ad mad sc n oa od g S S2 X Y σ' ∧ gd σ' od 0 = x := by
  obtain ⟨W, own, c, w, cm, R, M, hsc, hoa, hod, B⟩ := h
  have F : FR (RP (fun r => r = 91) own (lo Γ + hc σ)) σ σ' := by
    rw [e]
    exact ⟨Nat.le_refl _, Nat.le_refl _, fun _ _ z => z, fun b hb => ⟨rfl, rfl, rfl, up_ne _ _ (fun z => hb (Or.inl (by rw [z]; exact hod.2.1)))⟩⟩
  have W' : WF Γ σ' := by rw [e]; exact W.upd hod.1 (by omega) rfl rfl (fun _ _ => rfl)
  refine ⟨⟨W', own, c, w, cm, R.keep W F (fun r z => Or.inr (by omega)) (fun _ _ _ => rfl), M.keep F (fun r z => by omega) (fun _ _ => rfl), ?_, ?_, ?_, ?_⟩, ?_⟩
  · rw [e]; exact hsc
  · rw [e]; exact hoa
  · rw [e]; exact hod
  · rw [e]; exact B
  · rw [e]
    exact (congrFun (up_same _ _ _) 0).trans (up_same _ _ _)
/-- the class's answer over both -/
theorem lt_c {M : MI} {vs : List Value} {l : List String} {A : AnsT} {K : Int32 → AH → Prop} {KX : String → AH → Prop} (h : LT Γ ad mad sc n oa od g S S2 X Y σ) (H : ∀ own c w, RepC Γ σ own ad S c w → CLM Γ 130 M vs σ own ad c w l A) (k0 : A.1 = 0 → ∀ σ1, LT Γ ad mad sc n oa od g A.2.2 S2 (X + 8) (Y + 300) σ1 → K A.2.1 σ1) (kx : A.1 ≠ 0 → ∀ σ1, LT Γ ad mad sc n oa od g A.2.2 S2 (X + 8) (Y + 300) σ1 → KX (l.getD (A.1 - 1) "") σ1) (hd : 131 ≤ d) : CI Γ d M vs σ K KX := by
  obtain ⟨W, own, c, w, cm, R, M', hsc, hoa, hod, B⟩ := h
  refine CALL.mono (H own c w R) (by omega) (fun v σ1 W1 q => ?_) (fun E σ1 W1 q => ?_)
  · obtain ⟨q1, q2⟩ := q
    have lt := lt_stepC W1 M' hsc hoa hod B q2
    unfold ansO at q1
    by_cases z : A.1 = 0
    · rw [if_pos z] at q1
      exact ⟨_, Sum.inl.inj q1, k0 z σ1 lt⟩
    · rw [if_neg z] at q1
      exact absurd q1 (by simp)
  · obtain ⟨q1, q2⟩ := q
    have lt := lt_stepC W1 M' hsc hoa hod B q2
    unfold ansO at q1
    by_cases z : A.1 = 0
    · rw [if_pos z] at q1
      exact absurd q1 (by simp)
    · rw [if_neg z] at q1
      rw [Sum.inr.inj q1]
      exact kx z σ1 lt
/-- what a small method leaves -/
def QL (Γ : Gm) (ad mad : Nat → Nat) (sc n oa od : Nat) (g : Nat → Int32) (S2 : StT) (X Y : Nat) (A : AnsT) (oc : Oc) (σ' : AH) : Prop := oc = .inl (some (.int (nI A.1))) ∧ (A.1 = 0 → gj σ' oa 0 = A.2.1.toInt64) ∧ LT Γ ad mad sc n oa od g A.2.2 S2 (X + 8) (Y + 300) σ'
theorem wr_cat {M : MI} {pc : Nat} {l : List String} {A : AnsT} (hA : A.1 ≤ l.length) (cat : ∀ i, i < l.length → CAT M pc (l.getD i "") (nI (i + 1))) (z : A.1 ≠ 0) : CAT M pc (l.getD (A.1 - 1) "") (nI A.1) := by
  have := cat (A.1 - 1) (by omega)
  rw [show A.1 - 1 + 1 = A.1 by omega] at this
  exact this
theorem wr_std {M ML : MI} {vs : List Value} {pc : Nat} {l : List String} {A : AnsT} (h : LT Γ ad mad sc n oa od g S S2 X Y σ) (H : ∀ own c w, RepC Γ σ own ad S c w → CLM Γ 130 M vs σ own ad c w l A) (hA : A.1 ≤ l.length) (cat : ∀ i, i < l.length → CAT ML pc (l.getD i "") (nI (i + 1))) : hs σ (ad 0) = some (6, 17) ∧ CI Γ 150 M vs σ (fun r2 σ1 => ∃ n5 : Nat, hs σ1 oa = some (23, n5) ∧ ∃ j6 : Nat, IX 0 n5 j6 ∧ ∀ σ8 : AH, σ8 = setJ σ1 oa j6 (Int32.toInt64 r2) → QL Γ ad mad sc n oa od g S2 X Y A (.inl (some (.int 0))) σ8) (fun E σ1 => ∃ w : Int32, CAT ML pc E w ∧ QL Γ ad mad sc n oa od g S2 X Y A (.inl (some (.int w))) σ1) := by
  refine ⟨h.co, lt_c h H (fun z σ1 h1 => ⟨1, h1.hsA, 0, ix01, fun σ8 e8 => ?_⟩) (fun z σ1 h1 => ⟨_, wr_cat hA cat z, rfl, fun y => absurd y z, h1⟩) (by omega)⟩
  obtain ⟨h8, g8⟩ := lt_setJ h1 e8
  exact ⟨by rw [z]; rfl, fun _ => g8, h8⟩
/-- the same where the answer is a truth value -/
theorem wr_boo {M ML : MI} {vs : List Value} {pc : Nat} {l : List String} {A : AnsT} (h : LT Γ ad mad sc n oa od g S S2 X Y σ) (H : ∀ own c w, RepC Γ σ own ad S c w → CLM Γ 130 M vs σ own ad c w l A) (hA : A.1 ≤ l.length) (hb : A.2.1 = 0 ∨ A.2.1 = 1) (cat : ∀ i, i < l.length → CAT ML pc (l.getD i "") (nI (i + 1))) : hs σ (ad 0) = some (6, 17) ∧ CI Γ 150 M vs σ (fun r2 σ1 => ((r2 = 0 → ∃ n6 : Nat, hs σ1 oa = some (23, n6) ∧ ∃ j7 : Nat, IX 0 n6 j7 ∧ ∀ σ9 : AH, σ9 = setJ σ1 oa j7 0 → QL Γ ad mad sc n oa od g S2 X Y A (.inl (some (.int 0))) σ9) ∧ (¬ r2 = 0 → ∃ n13 : Nat, hs σ1 oa = some (23, n13) ∧ ∃ j14 : Nat, IX 0 n13 j14 ∧ ∀ σ16 : AH, σ16 = setJ σ1 oa j14 1 → QL Γ ad mad sc n oa od g S2 X Y A (.inl (some (.int 0))) σ16))) (fun E σ1 => ∃ w : Int32, CAT ML pc E w ∧ QL Γ ad mad sc n oa od g S2 X Y A (.inl (some (.int w))) σ1) := by
  refine ⟨h.co, lt_c h H (fun z σ1 h1 => ⟨fun y => ⟨1, h1.hsA, 0, ix01, fun σ8 e8 => ?_⟩, fun y => ⟨1, h1.hsA, 0, ix01, fun σ8 e8 => ?_⟩⟩) (fun z σ1 h1 => ⟨_, wr_cat hA cat z, rfl, fun y => absurd y z, h1⟩) (by omega)⟩
  · obtain ⟨h8, g8⟩ := lt_setJ h1 e8
    exact ⟨by rw [z]; rfl, fun _ => by rw [g8, y]; rfl, h8⟩
  · obtain ⟨h8, g8⟩ := lt_setJ h1 e8
    exact ⟨by rw [z]; rfl, fun _ => by rw [g8, hb.resolve_left y]; rfl, h8⟩
/-- a small method called -/
theorem ql_call {ML : MI} {vs : List Value} {A : AnsT} {K : Int32 → AH → Prop} {KX : String → AH → Prop} (H : RUN Γ 150 ML vs σ (QL Γ ad mad sc n oa od g S2 X Y A)) (k : ∀ σ5, LT Γ ad mad sc n oa od g A.2.2 S2 (X + 8) (Y + 300) σ5 → (A.1 = 0 → gj σ5 oa 0 = A.2.1.toInt64) → K (nI A.1) σ5) (hd : 151 ≤ d) : CI Γ d ML vs σ K KX := by
  refine CALL.mono H (by omega) (fun v σ1 W1 q => ?_) (fun E σ1 W1 q => absurd q.1 (by simp))
  obtain ⟨q1, q2, q3⟩ := q
  exact ⟨_, Sum.inl.inj q1, k σ1 q3 q2⟩
/-- how the model ended -/
theorem thr_call {K : Int32 → AH → Prop} {KX : String → AH → Prop} (h : hs σ (mad 0) = some (7, 27)) (k : K (gi σ (mad 0) 0) σ) (hd : 1 ≤ d) : CI Γ d MX9_thrown [.ref (mad 0)] σ K KX := by
  refine CI.of (d2 := 0) (P := fun r σ' => r = gi σ (mad 0) 0 ∧ σ' = σ) (eX9_thrown ⟨h, _, rfl, rfl, rfl⟩) (by omega) (fun r σ1 _ q => ?_)
  obtain ⟨q1, q2⟩ := q
  rw [q2, q1]; exact k
/-- the model's answer over both -/
theorem lt_m {M : MI} {vs : List Value} {A : AnsT} {S' : StT} {K : Int32 → AH → Prop} {KX : String → AH → Prop} (h : LT Γ ad mad sc n oa od g S' S X Y σ) (H : ∀ own c, RepM Γ σ own mad S c → CMN Γ 130 M vs σ own mad c A) (k : ∀ σ1, LT Γ ad mad sc n oa od g S' A.2.2 X Y σ1 → gj σ1 oa = gj σ oa → gi σ1 (mad 0) 0 = nI A.1 → K A.2.1 σ1) (hd : 131 ≤ d) : CI Γ d M vs σ K KX := by
  obtain ⟨W, own, c, w, cm, R, M', hsc, hoa, hod, B⟩ := h
  refine CALL.mono (H own cm M') (by omega) (fun v σ1 W1 q => ?_) (fun E σ1 W1 q => absurd q.1.1 (by simp))
  obtain ⟨⟨q1, q2⟩, q3⟩ := q
  obtain ⟨l1, l2, -⟩ := lt_stepM W W1 R hsc hoa hod B q3
  exact ⟨_, Sum.inl.inj q1, k σ1 l1 l2 q2⟩
/-- the two compared -/
theorem lt_fin {M : MI} {vs : List Value} {A : AnsT} {Nx Q0 : AH → Prop} {KX1 KX2 : String → AH → Prop} (h : LT Γ ad mad sc n oa od g A.2.2 S X Y σ) (go : A.1 = 0 → gj σ oa 0 = A.2.1.toInt64) (hA : A.1 ≤ 4) (H : ∀ own c, RepM Γ σ own mad S c → CMN Γ 130 M vs σ own mad c A) (k : ∀ σ1, LT Γ ad mad sc n oa od g A.2.2 A.2.2 X Y σ1 → Nx σ1) (hd : 131 ≤ d) : hs σ (mad 0) = some (7, 27) ∧ CI Γ d M vs σ (fun r12 σ11 => hs σ11 (mad 0) = some (7, 27) ∧ CI Γ d MX9_thrown [.ref (mad 0)] σ11 (fun r15 σ14 => ((r15 = nI A.1 → ((nI A.1 ≠ 0 → Nx σ14) ∧ (nI A.1 = 0 → ∃ n20 : Nat, hs σ14 oa = some (23, n20) ∧ ∃ j21 : Nat, IX 0 n20 j21 ∧ (((lg_cmp (gj σ14 oa j21) (Int32.toInt64 r12)) = 0 → Nx σ14) ∧ (¬ (lg_cmp (gj σ14 oa j21) (Int32.toInt64 r12)) = 0 → Q0 σ14))))) ∧ (¬ r15 = nI A.1 → Q0 σ14))) KX1) KX2 := by
  refine ⟨h.mo, lt_m h H (fun σ1 h1 ej ei => ⟨h1.mo, thr_call h1.mo ?_ (by omega)⟩) hd⟩
  refine ⟨fun _ => ⟨fun _ => k σ1 h1, fun z => ⟨1, h1.hsA, 0, ix01, fun _ => k σ1 h1, fun y => absurd ?_ y⟩⟩, fun y => absurd ei y⟩
  have z0 := (nI_eq (b := 0) (by omega) (by omega)).mp z
  rw [ej, go z0]
  exact (cmp0 _ _).mpr rfl
/-- truth values compared -/
theorem lt_finB {M : MI} {vs : List Value} {A : AnsT} {Nx Q0 : AH → Prop} {C : Int64 → Int64 → AH → Prop} {KX1 KX2 : String → AH → Prop} (h : LT Γ ad mad sc n oa od g A.2.2 S X Y σ) (go : A.1 = 0 → gj σ oa 0 = A.2.1.toInt64) (hb : A.2.1 = 0 ∨ A.2.1 = 1) (hA : A.1 ≤ 4) (H : ∀ own c, RepM Γ σ own mad S c → CMN Γ 130 M vs σ own mad c A) (k : ∀ σ1, LT Γ ad mad sc n oa od g A.2.2 A.2.2 X Y σ1 → Nx σ1) (kC : ∀ x σ1, LT Γ ad mad sc n oa od g A.2.2 A.2.2 X Y σ1 → C x x σ1) (hd : 131 ≤ d) : hs σ (mad 0) = some (7, 27) ∧ CI Γ d M vs σ (fun r16 σ15 => hs σ15 (mad 0) = some (7, 27) ∧ CI Γ d MX9_thrown [.ref (mad 0)] σ15 (fun r19 σ18 => ((r19 = nI A.1 → ((nI A.1 ≠ 0 → Nx σ18) ∧ (nI A.1 = 0 → ∃ n24 : Nat, hs σ18 oa = some (23, n24) ∧ ∃ j25 : Nat, IX 0 n24 j25 ∧ ((r16 = 0 → C 0 (gj σ18 oa j25) σ18) ∧ (¬ r16 = 0 → C 1 (gj σ18 oa j25) σ18))))) ∧ (¬ r19 = nI A.1 → Q0 σ18))) KX1) KX2 := by
  refine ⟨h.mo, lt_m h H (fun σ1 h1 ej ei => ⟨h1.mo, thr_call h1.mo ?_ (by omega)⟩) hd⟩
  refine ⟨fun _ => ⟨fun _ => k σ1 h1, fun z => ⟨1, h1.hsA, 0, ix01, fun y => ?_, fun y => ?_⟩⟩, fun y => absurd ei y⟩
  · have z0 := (nI_eq (b := 0) (by omega) (by omega)).mp z
    rw [ej, go z0, y]
    exact kC 0 σ1 h1
  · have z0 := (nI_eq (b := 0) (by omega) (by omega)).mp z
    rw [ej, go z0, hb.resolve_left y]
    exact kC 1 σ1 h1
end LTS
