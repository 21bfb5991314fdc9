/-! THE LAW's state: the store, the script, the numbers, the families. -/
section PUR
variable {S S' S0 : StT} {a b : Nat}
theorem okv_i : okv S a = true ↔ (a < sN S ∧ sR S a = false) := okf_t
theorem fcd_0 (h : okv S a = true) (hn : sN S ≤ 200) : fcd S (nI a) = 0 ∧ ixF (nI a) = a := by
  obtain ⟨h1, h2⟩ := okv_i.mp h
  have e : ixF (nI a) = a := pk_tn (by omega)
  refine ⟨?_, e⟩
  unfold fcd
  rw [if_neg (fun z => z.elim (nI_pos (by omega)) (fun z => by have := (nI_leI (by omega) (by omega)).mp z; omega)), e, h2]
  exact if_neg (by decide)
theorem two_0 {o : Nat} (ha : okv S a = true) (hb : okv S b = true) (hn : sN S < 200) (hz : isDv o → cntF (sF S b) ≠ 0) : aTwo o S (nI a) (nI b) = (0, nI (sN S), stA S (opF o (sF S a) (sF S b))) := by
  obtain ⟨a0, a1⟩ := fcd_0 ha (by omega)
  obtain ⟨b0, b1⟩ := fcd_0 hb (by omega)
  unfold aTwo
  rw [a0, b0, a1, b1, if_neg (by omega), if_neg (by omega), if_neg (by omega), if_neg (by rw [bd_false.mpr (fun z => hz z.1 z.2)]; decide)]
theorem one_0 {o : Nat} (ha : okv S a = true) (hn : sN S < 200) : aOne o S (nI a) = (0, nI (sN S), stA S (opF o (sF S a) (sF S a))) := by
  obtain ⟨a0, a1⟩ := fcd_0 ha (by omega)
  unfold aOne
  rw [a0, a1, if_neg (by omega), if_neg (by omega), if_neg (by omega)]
theorem isM_n {m : Nat} (h : m < 4096) : isM (nI m) := ⟨nI_pos (by omega), fun z => by have := (c4096le (by omega)).mp z; omega⟩
theorem sng_0 {m : Nat} (h : m < 4096) (hn : sN S < 200) : aSingle S (nI m) = (0, nI (sN S), stA S (sngF m)) := by
  unfold aSingle
  rw [if_neg (by rw [bd_true.mpr (isM_n h)]; decide), if_neg (by omega), show ixF (nI m) = m from pk_tn (by omega)]
theorem sub_0 (hn : sN S < 200) : aSubs S 0 12 = (0, nI (sN S), stA S zf) := by
  unfold aSubs
  have e1 : bd (isM 0) = true := bd_true.mpr (isM_n (m := 0) (by omega))
  rw [if_neg (by rw [e1]; decide), if_neg (by omega), sbs0]
theorem q_0 {v : (Nat → Bool) → Int32} (ha : okv S a = true) (hn : sN S ≤ 200) : aQ S (nI a) v = (0, v (sF S a), S) := by
  obtain ⟨a0, a1⟩ := fcd_0 ha hn
  rw [aQ_0 a0, a1]
theorem q2_0 {v : (Nat → Bool) → (Nat → Bool) → Int32} (ha : okv S a = true) (hb : okv S b = true) (hn : sN S ≤ 200) : aQ2 S (nI a) (nI b) v = (0, v (sF S a) (sF S b), S) := by
  obtain ⟨a0, a1⟩ := fcd_0 ha hn
  obtain ⟨b0, b1⟩ := fcd_0 hb hn
  unfold aQ2
  rw [a0, b0, a1, b1, if_neg (by omega), if_neg (by omega)]
theorem rel_0 (ha : okv S a = true) (hn : sN S ≤ 200) : aRel S (nI a) = (0, sL S - 1, stR S a) := by
  obtain ⟨a0, a1⟩ := fcd_0 ha hn
  unfold aRel
  rw [a0, a1, if_neg (by omega), if_neg (by omega)]
/-- what was there is there -/
def Ext (S S' : StT) : Prop := sN S ≤ sN S' ∧ ∀ a, a < sN S → sR S' a = sR S a ∧ sF S' a = sF S a
theorem Ext.refl (S : StT) : Ext S S := ⟨Nat.le_refl _, fun _ _ => ⟨rfl, rfl⟩⟩
theorem Ext.trans {S1 : StT} (h : Ext S S1) (k : Ext S1 S') : Ext S S' := ⟨Nat.le_trans h.1 k.1, fun a ha => ⟨(k.2 a (Nat.lt_of_lt_of_le ha h.1)).1.trans (h.2 a ha).1, (k.2 a (Nat.lt_of_lt_of_le ha h.1)).2.trans (h.2 a ha).2⟩⟩
theorem Ext.add (F : Nat → Bool) : Ext S (stA S F) := ⟨Nat.le_succ _, fun a ha => ⟨rfl, up_ne _ _ (by omega)⟩⟩
theorem Ext.ok (h : Ext S S') (ha : okv S a = true) : okv S' a = true ∧ sF S' a = sF S a := by
  obtain ⟨h1, h2⟩ := okv_i.mp ha
  obtain ⟨e1, e2⟩ := h.2 a h1
  have := h.1
  exact ⟨okv_i.mpr ⟨by omega, e1.trans h2⟩, e2⟩
theorem add_ok {F : Nat → Bool} (h : sR S (sN S) = false) : okv (stA S F) (sN S) = true ∧ sF (stA S F) (sN S) = F := ⟨okv_i.mpr ⟨Nat.lt_succ_self _, h⟩, up_same _ _ _⟩
end PUR
/-- the store stands at S; the script, the numbers gn, the families gf; T calls so far at most, R releases -/
def LT (Γ : Gm) (ad : Nat → Nat) (sc n nu fa : Nat) (gn : Nat → Int32) (gf : Nat → Int64) (S : StT) (T R : Nat) (σ : AH) : Prop := WF Γ σ ∧ (sL S = nI (sN S - R) ∧ R ≤ sN S) ∧ ∃ own c w, RepC Γ σ own ad S c w ∧ (hs σ sc = some (28, n) ∧ own sc = 0 ∧ sc < lo Γ + hc σ) ∧ (hs σ nu = some (22, 16) ∧ own nu = 90 ∧ nu < lo Γ + hc σ ∧ gi σ nu = gn) ∧ (hs σ fa = some (23, 16) ∧ own fa = 91 ∧ fa < lo Γ + hc σ ∧ gj σ fa = gf) ∧ hc σ + w ≤ 100 + 8 * T + 4 * c ∧ hv σ + 64 * w ≤ 50000 + 300 * T + 5 * 2 ^ (c + 1)
section LTS
variable {Γ : Gm} {d : Nat} {σ : AH} {ad : Nat → Nat} {sc n nu fa : Nat} {gn : Nat → Int32} {gf : Nat → Int64} {S : StT} {T R : Nat}
theorem LT.hsS (h : LT Γ ad sc n nu fa gn gf S T R σ) : hs σ sc = some (28, n) := by
  obtain ⟨-, -, own, c, w, -, z, -⟩ := h
  exact z.1
theorem LT.hsN (h : LT Γ ad sc n nu fa gn gf S T R σ) : hs σ nu = some (22, 16) := by
  obtain ⟨-, -, own, c, w, -, -, z, -⟩ := h
  exact z.1
theorem LT.giN (h : LT Γ ad sc n nu fa gn gf S T R σ) : gi σ nu = gn := by
  obtain ⟨-, -, own, c, w, -, -, z, -⟩ := h
  exact z.2.2.2
theorem LT.hsF (h : LT Γ ad sc n nu fa gn gf S T R σ) : hs σ fa = some (23, 16) := by
  obtain ⟨-, -, own, c, w, -, -, -, z, -⟩ := h
  exact z.1
theorem LT.gjF (h : LT Γ ad sc n nu fa gn gf S T R σ) : gj σ fa = gf := by
  obtain ⟨-, -, own, c, w, -, -, -, z, -⟩ := h
  exact z.2.2.2
theorem LT.co (h : LT Γ ad sc n nu fa gn gf S T R σ) : hs σ (ad 0) = some (6, 17) := by
  obtain ⟨-, -, own, c, w, z, -⟩ := h
  exact z.x0
theorem LT.ws (h : LT Γ ad sc n nu fa gn gf S T R σ) : WS S := by
  obtain ⟨-, -, own, c, w, z, -⟩ := h
  exact z.lt
theorem LT.n200 (h : LT Γ ad sc n nu fa gn gf S T R σ) : sN S ≤ 200 := h.ws.2.2.1
theorem LT.rn (h : LT Γ ad sc n nu fa gn gf S T R σ) : sR S (sN S) = false := h.ws.2.2.2.2.1 _ (Nat.le_refl _)
theorem LT.sl (h : LT Γ ad sc n nu fa gn gf S T R σ) : sL S = nI (sN S - R) ∧ R ≤ sN S := h.2.1
theorem LT.more {T' : Nat} (h : LT Γ ad sc n nu fa gn gf S T R σ) (ht : T ≤ T') : LT Γ ad sc n nu fa gn gf S T' R σ := by
  obtain ⟨W, L, own, c, w, R0, hsc, hn, hf, B1, B2⟩ := h
  exact ⟨W, L, own, c, w, R0, hsc, hn, hf, by omega, by omega⟩
/-- a call of the class -/
theorem LT.step {own : Nat → Nat} {c w : Nat} {S' : StT} {σ' : AH} {R' : Nat} (W : WF Γ σ') (L : sL S' = nI (sN S' - R') ∧ R' ≤ sN S') (hsc : hs σ sc = some (28, n) ∧ own sc = 0 ∧ sc < lo Γ + hc σ) (hn : hs σ nu = some (22, 16) ∧ own nu = 90 ∧ nu < lo Γ + hc σ ∧ gi σ nu = gn) (hf : hs σ fa = some (23, 16) ∧ own fa = 91 ∧ fa < lo Γ + hc σ ∧ gj σ fa = gf) (B1 : hc σ + w ≤ 100 + 8 * T + 4 * c) (B2 : hv σ + 64 * w ≤ 50000 + 300 * T + 5 * 2 ^ (c + 1)) (st : StepC Γ σ own ad c w S' σ') : LT Γ ad sc n nu fa gn gf S' (T + 1) R' σ' := by
  obtain ⟨own', c', w', R, ag, F, a, b, e⟩ := st
  have hle : lo Γ + hc σ ≤ lo Γ + hc σ' := Nat.add_le_add_left F.1 _
  have nn : ¬ RP CW own (lo Γ + hc σ) nu := RP_no hn.2.1 hn.2.2.1 (by unfold CW; omega)
  have nf : ¬ RP CW own (lo Γ + hc σ) fa := RP_no hf.2.1 hf.2.2.1 (by unfold CW; omega)
  exact ⟨W, L, own', c', w', R, ⟨F.gh hsc.1, (ag _ hsc.2.2).trans hsc.2.1, by omega⟩, ⟨F.gh hn.1, (ag _ hn.2.2.1).trans hn.2.1, by omega, (F.gi nn).trans hn.2.2.2⟩, ⟨F.gh hf.1, (ag _ hf.2.2.1).trans hf.2.1, by omega, (F.gj nf).trans hf.2.2.2⟩, by omega, by omega⟩
theorem lt_call {M : MI} {vs : List Value} {l : List String} {A : AnsT} {v : Int32} {S' : StT} {R' : Nat} {K : Int32 → AH → Prop} {KX : String → AH → Prop} (h : LT Γ ad sc n nu fa gn gf S T R σ) (H : ∀ own c w, RepC Γ σ own ad S c w → CLM Γ 11 M vs σ own ad c w l A) (hA : A = (0, v, S')) (L : sL S' = nI (sN S' - R') ∧ R' ≤ sN S') (k : ∀ σ1, LT Γ ad sc n nu fa gn gf S' (T + 1) R' σ1 → K v σ1) (hd : 12 ≤ d) : CI Γ d M vs σ K KX := by
  obtain ⟨W, -, own, c, w, R0, hsc, hn, hf, B1, B2⟩ := h
  subst hA
  refine CALL.mono (H own c w R0) (by omega) (fun v1 σ1 W1 q => ?_) (fun E σ1 W1 q => ?_)
  · obtain ⟨q1, q2⟩ := q
    unfold ansO at q1
    rw [if_pos rfl] at q1
    exact ⟨_, Sum.inl.inj q1, k σ1 (LT.step W1 L hsc hn hf B1 B2 q2)⟩
  · obtain ⟨q1, -⟩ := q
    unfold ansO at q1
    rw [if_pos rfl] at q1
    exact absurd q1 (by simp)
theorem sl_add {F : Nat → Bool} (h : sL S = nI (sN S - R) ∧ R ≤ sN S) : sL (stA S F) = nI (sN (stA S F) - R) ∧ R ≤ sN (stA S F) := by
  refine ⟨?_, by show R ≤ sN S + 1; omega⟩
  show sL S + 1 = nI (sN S + 1 - R)
  rw [h.1, nI_1, show sN S - R + 1 = sN S + 1 - R by omega]
/-- a call that makes a family -/
theorem lt_add {M : MI} {vs : List Value} {l : List String} {A : AnsT} {F : Nat → Bool} {K : Int32 → AH → Prop} {KX : String → AH → Prop} (h : LT Γ ad sc n nu fa gn gf S T R σ) (H : ∀ own c w, RepC Γ σ own ad S c w → CLM Γ 11 M vs σ own ad c w l A) (hA : A = (0, nI (sN S), stA S F)) (k : ∀ σ1, LT Γ ad sc n nu fa gn gf (stA S F) (T + 1) R σ1 → okv (stA S F) (sN S) = true → sF (stA S F) (sN S) = F → K (nI (sN S)) σ1) (hd : 12 ≤ d) : CI Γ d M vs σ K KX :=
  lt_call h H hA (sl_add h.sl) (fun σ1 h1 => k σ1 h1 (add_ok h.rn).1 (add_ok h.rn).2) hd
/-- a question -/
theorem lt_ask {M : MI} {vs : List Value} {l : List String} {A : AnsT} {v : Int32} {K : Int32 → AH → Prop} {KX : String → AH → Prop} (h : LT Γ ad sc n nu fa gn gf S T R σ) (H : ∀ own c w, RepC Γ σ own ad S c w → CLM Γ 11 M vs σ own ad c w l A) (hA : A = (0, v, S)) (k : ∀ σ1, LT Γ ad sc n nu fa gn gf S (T + 1) R σ1 → K v σ1) (hd : 12 ≤ d) : CI Γ d M vs σ K KX :=
  lt_call h H hA h.sl k hd
theorem LT.setF {σ' : AH} {j : Nat} {x : Int64} (h : LT Γ ad sc n nu fa gn gf S T R σ) (e : σ' = setJ σ fa j x) : LT Γ ad sc n nu fa gn (up gf j x) S T R σ' := by
  obtain ⟨W, L, own, c, w, R0, hsc, hn, hf, B⟩ := h
  have F : FR (RP (fun r => r = 91) own (lo Γ + hc σ)) σ σ' := by rw [e]; exact FR.setJ _ _ _ (Or.inl hf.2.1)
  have W' : WF Γ σ' := by rw [e]; exact W.upd hf.1 (by omega) rfl rfl (fun b hb => up_ne _ _ hb)
  refine ⟨W', L, own, c, w, R0.keep W F (fun r z => Or.inr (by omega)) (fun _ _ _ => rfl), ?_, ?_, ?_, ?_⟩
  · rw [e]; exact hsc
  · rw [e]; exact hn
  · refine ⟨by rw [e]; exact hf.1, hf.2.1, by rw [e]; exact hf.2.2.1, ?_⟩
    rw [e]
    show up (gj σ) fa (up (gj σ fa) j x) fa = _
    rw [up_same, hf.2.2.2]
  · rw [e]; exact B
theorem LT.setN {σ' : AH} {j : Nat} {x : Int32} (h : LT Γ ad sc n nu fa gn gf S T R σ) (e : σ' = setI σ nu j x) : LT Γ ad sc n nu fa (up gn j x) gf S T R σ' := by
  obtain ⟨W, L, own, c, w, R0, hsc, hn, hf, B⟩ := h
  have F : FR (RP (fun r => r = 90) own (lo Γ + hc σ)) σ σ' := by rw [e]; exact FR.setI _ _ _ (Or.inl hn.2.1)
  have W' : WF Γ σ' := by rw [e]; exact W.upd hn.1 (by omega) rfl rfl (fun b hb => rfl)
  refine ⟨W', L, own, c, w, R0.keep W F (fun r z => Or.inr (by omega)) (fun _ _ _ => rfl), ?_, ?_, ?_, ?_⟩
  · rw [e]; exact hsc
  · refine ⟨by rw [e]; exact hn.1, hn.2.1, by rw [e]; exact hn.2.2.1, ?_⟩
    rw [e]
    show up (gi σ) nu (up (gi σ nu) j x) nu = _
    rw [up_same, hn.2.2.2]
  · rw [e]; exact hf
  · rw [e]; exact B
end LTS
