/-! ROWS of Reader: products and sums, out of what they are made of. -/
abbrev RS : Type := Nat ⊕ (Nat × List Nat)
def CPost (rd kn vl tl : Nat) (t : Nat → Int32) (pr : List Nat) (R : RS) (σ σ' : AH) : Prop := Chg (cI rd kn vl) nJ σ σ' ∧ match R with
  | .inl e => ∃ p' pr', CT σ' rd kn vl t tl p' pr' (some e)
  | .inr x => CT σ' rd kn vl t tl x.1 (pr ++ x.2) none
/-- M, at the token at p, comes to R -/
def CN (Γ : Gm) (M : MI) (D rd tx fm kn vl : Nat) (t : Nat → Int32) (tl : Nat) (ok : Nat → Bool) (p : Nat) (vs : List Value) (R : RS) : Prop := ∀ (σ : AH) (pr : List Nat) (d : Nat), CRs σ rd tx fm kn vl t tl ok → CT σ rd kn vl t tl p pr none → pr.length ≤ p → D ≤ d → RV Γ d M vs σ (CPost rd kn vl tl t pr R σ)
/-- .. its loop -/
def CL (Γ : Gm) (M : MI) (D rd tx fm kn vl : Nat) (t : Nat → Int32) (tl : Nat) (ok : Nat → Bool) (p o : Nat) (R : RS) : Prop := ∀ (σ : AH) (pr : List Nat) (d i : Nat), CRs σ rd tx fm kn vl t tl ok → CT σ rd kn vl t tl p pr none → pr.length ≤ p → i ≤ p → D ≤ d → EV Γ M d 7 [some (.ref rd), some (.int (nI o)), some (.int (nI i)), none] [] σ (fun oc σ' => oc = .inl none ∧ CPost rd kn vl tl t pr R σ σ')
def andR (R : RS) (f : Nat × List Nat → RS) : RS := match R with
  | .inl e => .inl e
  | .inr x => f x
def preR (a : List Nat) (R : RS) : RS := match R with
  | .inl e => .inl e
  | .inr x => .inr (x.1, a ++ x.2)
def opc (x : Int32) : Nat := if x = 43 then 1 else if x = 45 then 2 else if x = 38 then 3 else if x = 42 then 4 else if x = 47 then 5 else 6
theorem opc_ck {x : Int32} (h : isSumb x = true ∨ isPrb x = true) : x = nI (ckS (opc x)) := by
  unfold isSumb isPrb at h
  simp only [Bool.or_eq_true, decide_eq_true_iff] at h
  rcases h with (h | h | h) | (h | h | h) <;> (subst h; decide)
theorem opc_lt (x : Int32) : 1 ≤ opc x ∧ opc x ≤ 6 := by
  unfold opc
  split
  · omega
  · split
    · omega
    · split
      · omega
      · split
        · omega
        · split <;> omega
theorem opc_cv (x : Int32) : (0 : Int32) = nI (cvS (opc x)) := by
  rw [cv_op (by have := opc_lt x; omega)]; rfl
theorem sg_Sum {x : Int32} (h : isSumb x = true) : isSumb x = true ∨ isPrb x = true := Or.inl h
theorem sg_Product {x : Int32} (h : isPrb x = true) : isSumb x = true ∨ isPrb x = true := Or.inr h
def dF (o : Nat) : Nat := 5 * (20 - o) + 8
def dPr (o : Nat) : Nat := dF o + 1
def dS (o : Nat) : Nat := dF o + 2
def dB (o : Nat) : Nat := dF o - 2
def dW (o : Nat) : Nat := dF o - 1
theorem dF_pos (o : Nat) : 8 ≤ dF o := by unfold dF; omega
theorem dF_up {o : Nat} (h : o < 20) : dF o = dF (o + 1) + 5 := by unfold dF; omega
theorem CPost_pre {rd kn vl tl : Nat} {t : Nat → Int32} {pr a : List Nat} {R : RS} {σ σ1 σ' : AH} (h : Chg (cI rd kn vl) nJ σ σ1) (k : CPost rd kn vl tl t (pr ++ a) R σ1 σ') : CPost rd kn vl tl t pr (preR a R) σ σ' := by
  obtain ⟨k1, k2⟩ := k
  refine ⟨h.trans k1, ?_⟩
  cases R with
  | inl e => exact k2
  | inr x =>
    show CT σ' rd kn vl t tl x.1 (pr ++ (a ++ x.2)) none
    rw [← List.append_assoc]; exact k2
section RD
variable {Γ : Gm} {rd tx fm kn vl tl : Nat} {t : Nat → Int32} {ok : Nat → Bool}

theorem CL_end_Product {p o : Nat} (h : isPrb (tkd t tl p) = false) : CL Γ MX6_readProduct (dPr o) rd tx fm kn vl t tl ok p o (.inr (p, [])) := by
  intro σ pr d i C D hl hi hd
  have hpl := D.2.2.2.2.2.2.2.2.1
  have tl2 : tl ≤ 200 := C.2.2.2.2.2.2.2.2.2.2.1
  have fin : (Sum.inl none : Oc) = .inl none ∧ CPost rd kn vl tl t pr (.inr (p, [])) σ σ := ⟨rfl, Chg.refl _ _ _, by show CT σ rd kn vl t tl p (pr ++ []) none; rw [List.append_nil]; exact D⟩
  refine gX6_readProduct_7 ⟨fun _ => fin, fun _ => ⟨C.1, fun _ => fin, fun _ => ?_⟩⟩
  rw [D.2.2.2.1]
  have := dF_pos o
  refine CI.of (d2 := 0) isPr_R (by unfold dPr at hd; omega) (fun r σ1 hw hp => ?_)
  obtain ⟨rfl, rfl⟩ := hp
  exact ⟨fun _ => fin, fun z => absurd (by rw [h]; rfl) z⟩
theorem CL_go_Product {p o : Nat} {R2 R3 : RS} (h : isPrb (tkd t tl p) = true) (H : CN Γ MX6_readFactor (dF o) rd tx fm kn vl t tl ok (nxt t tl p) [.ref rd, .int (nI o)] R2) (H2 : ∀ x, R2 = .inr x → nxt t tl p + x.2.length ≤ x.1 ∧ CL Γ MX6_readProduct (dPr o) rd tx fm kn vl t tl ok x.1 o R3) (hp : p < tl) : CL Γ MX6_readProduct (dPr o) rd tx fm kn vl t tl ok p o (andR R2 (fun x => preR (x.2 ++ [opc (tkd t tl p)]) R3)) := by
  intro σ pr d i C D hl hi hd
  have tl2 : tl ≤ 200 := C.2.2.2.2.2.2.2.2.2.2.1
  have nx := nxt_gt (t := t) hp
  have dp := dF_pos o
  unfold dPr at hd
  refine gX6_readProduct_7 ⟨fun z => absurd ((nI_leI (a := 200) (b := i) (by omega) (by omega)).mp z) (by omega), fun _ => ⟨C.1, fun z => absurd rfl (D.neg.2.mp z), fun _ => ?_⟩⟩
  rw [D.2.2.2.1]
  refine CI.of (d2 := 0) isPr_R (by omega) (fun r σ1 hw hq => ?_)
  obtain ⟨rfl, rfl⟩ := hq
  rw [D.2.2.2.1]
  refine ⟨fun z => absurd z (by rw [h]; decide), fun _ => ⟨C.1, CV.of (d2 := 2) (adv_R C D (by omega)) (by omega) (fun σ8 hw8 hp8 => ?_)⟩⟩
  obtain ⟨c8, D8⟩ := hp8
  have C8 := C.chg c8
  refine ⟨C8.1, CV.of (d2 := d - 1) (H σ8 pr (d - 1) C8 D8 (by omega) (by omega)) (by omega) (fun σ10 hw10 hp10 => ?_)⟩
  obtain ⟨c10, D10⟩ := hp10
  have C10 := C8.chg c10
  refine ⟨C10.1, ?_⟩
  cases R2 with
  | inl e =>
    obtain ⟨p', pr', D10⟩ := D10
    refine CV.of (d2 := 0) (addStep_R C10 D10 (opc_ck (sg_Product h)) (opc_cv _)) (by omega) (fun σ13 hw13 hp13 => ?_)
    obtain ⟨c13, D13⟩ := hp13
    have fin : (Sum.inl none : Oc) = .inl none ∧ CPost rd kn vl tl t pr (.inl e) σ1 σ13 := ⟨rfl, (c8.trans c10).trans c13, _, _, D13⟩
    exact gX6_readProduct_7 ⟨fun _ => fin, fun _ => ⟨(C10.chg c13).1, fun _ => fin, fun z => absurd (D13.neg.2.mpr (by simp)) z⟩⟩
  | inr x =>
    obtain ⟨hlen, H3⟩ := H2 x rfl
    have D10 : CT σ10 rd kn vl t tl x.1 (pr ++ x.2) none := D10
    have xle := D10.2.2.2.2.2.2.2.2.1
    have ll : (pr ++ x.2).length < x.1 := by rw [List.length_append]; omega
    refine CV.of (d2 := 0) (addStep_R C10 D10 (opc_ck (sg_Product h)) (opc_cv _)) (by omega) (fun σ13 hw13 hp13 => ?_)
    obtain ⟨c13, D13⟩ := hp13
    rw [if_pos (by omega), List.append_assoc] at D13
    rw [nI_1]
    rw [List.length_append] at ll
    refine (H3 σ13 _ d (i + 1) (C10.chg c13) D13 (by simp only [List.length_append, List.length_singleton]; omega) (by omega) (by unfold dPr; omega)).post (fun o' σ' q => ⟨q.1, ?_⟩)
    exact CPost_pre ((c8.trans c10).trans c13) q.2
theorem CN_Product {p o : Nat} {R1 R2 : RS} (H : CN Γ MX6_readFactor (dF o) rd tx fm kn vl t tl ok p [.ref rd, .int (nI o)] R1) (H2 : ∀ x, R1 = .inr x → p + x.2.length ≤ x.1 ∧ CL Γ MX6_readProduct (dPr o) rd tx fm kn vl t tl ok x.1 o R2) : CN Γ MX6_readProduct (dPr o) rd tx fm kn vl t tl ok p [.ref rd, .int (nI o)] (andR R1 (fun x => preR x.2 R2)) := by
  intro σ pr d C D hl hd
  have dp := dF_pos o
  unfold dPr at hd
  refine eX6_readProduct ⟨C.1, CV.of (d2 := d - 1) (H σ pr (d - 1) C D hl (by omega)) (by omega) (fun σ1 hw1 hp1 => ?_)⟩
  obtain ⟨c1, D1⟩ := hp1
  cases R1 with
  | inl e =>
    obtain ⟨p', pr', D1⟩ := D1
    have fin : (Sum.inl none : Oc) = .inl none ∧ CPost rd kn vl tl t pr (.inl e) σ σ1 := ⟨rfl, c1, _, _, D1⟩
    exact gX6_readProduct_7 ⟨fun _ => fin, fun _ => ⟨(C.chg c1).1, fun _ => fin, fun z => absurd (D1.neg.2.mpr (by simp)) z⟩⟩
  | inr x =>
    obtain ⟨hlen, H3⟩ := H2 x rfl
    have D1 : CT σ1 rd kn vl t tl x.1 (pr ++ x.2) none := D1
    refine (H3 σ1 _ d 0 (C.chg c1) D1 (by rw [List.length_append]; omega) (by omega) (by unfold dPr; omega)).post (fun o' σ' q => ⟨q.1, ?_⟩)
    exact CPost_pre c1 q.2

theorem CL_end_Sum {p o : Nat} (h : isSumb (tkd t tl p) = false) : CL Γ MX6_readSum (dS o) rd tx fm kn vl t tl ok p o (.inr (p, [])) := by
  intro σ pr d i C D hl hi hd
  have hpl := D.2.2.2.2.2.2.2.2.1
  have tl2 : tl ≤ 200 := C.2.2.2.2.2.2.2.2.2.2.1
  have fin : (Sum.inl none : Oc) = .inl none ∧ CPost rd kn vl tl t pr (.inr (p, [])) σ σ := ⟨rfl, Chg.refl _ _ _, by show CT σ rd kn vl t tl p (pr ++ []) none; rw [List.append_nil]; exact D⟩
  refine gX6_readSum_7 ⟨fun _ => fin, fun _ => ⟨C.1, fun _ => fin, fun _ => ?_⟩⟩
  rw [D.2.2.2.1]
  have := dF_pos o
  refine CI.of (d2 := 0) isSum_R (by unfold dS at hd; omega) (fun r σ1 hw hp => ?_)
  obtain ⟨rfl, rfl⟩ := hp
  exact ⟨fun _ => fin, fun z => absurd (by rw [h]; rfl) z⟩
theorem CL_go_Sum {p o : Nat} {R2 R3 : RS} (h : isSumb (tkd t tl p) = true) (H : CN Γ MX6_readProduct (dPr o) rd tx fm kn vl t tl ok (nxt t tl p) [.ref rd, .int (nI o)] R2) (H2 : ∀ x, R2 = .inr x → nxt t tl p + x.2.length ≤ x.1 ∧ CL Γ MX6_readSum (dS o) rd tx fm kn vl t tl ok x.1 o R3) (hp : p < tl) : CL Γ MX6_readSum (dS o) rd tx fm kn vl t tl ok p o (andR R2 (fun x => preR (x.2 ++ [opc (tkd t tl p)]) R3)) := by
  intro σ pr d i C D hl hi hd
  have tl2 : tl ≤ 200 := C.2.2.2.2.2.2.2.2.2.2.1
  have nx := nxt_gt (t := t) hp
  have dp := dF_pos o
  unfold dS at hd
  refine gX6_readSum_7 ⟨fun z => absurd ((nI_leI (a := 200) (b := i) (by omega) (by omega)).mp z) (by omega), fun _ => ⟨C.1, fun z => absurd rfl (D.neg.2.mp z), fun _ => ?_⟩⟩
  rw [D.2.2.2.1]
  refine CI.of (d2 := 0) isSum_R (by omega) (fun r σ1 hw hq => ?_)
  obtain ⟨rfl, rfl⟩ := hq
  rw [D.2.2.2.1]
  refine ⟨fun z => absurd z (by rw [h]; decide), fun _ => ⟨C.1, CV.of (d2 := 2) (adv_R C D (by omega)) (by omega) (fun σ8 hw8 hp8 => ?_)⟩⟩
  obtain ⟨c8, D8⟩ := hp8
  have C8 := C.chg c8
  refine ⟨C8.1, CV.of (d2 := d - 1) (H σ8 pr (d - 1) C8 D8 (by omega) (by unfold dPr; omega)) (by omega) (fun σ10 hw10 hp10 => ?_)⟩
  obtain ⟨c10, D10⟩ := hp10
  have C10 := C8.chg c10
  refine ⟨C10.1, ?_⟩
  cases R2 with
  | inl e =>
    obtain ⟨p', pr', D10⟩ := D10
    refine CV.of (d2 := 0) (addStep_R C10 D10 (opc_ck (sg_Sum h)) (opc_cv _)) (by omega) (fun σ13 hw13 hp13 => ?_)
    obtain ⟨c13, D13⟩ := hp13
    have fin : (Sum.inl none : Oc) = .inl none ∧ CPost rd kn vl tl t pr (.inl e) σ1 σ13 := ⟨rfl, (c8.trans c10).trans c13, _, _, D13⟩
    exact gX6_readSum_7 ⟨fun _ => fin, fun _ => ⟨(C10.chg c13).1, fun _ => fin, fun z => absurd (D13.neg.2.mpr (by simp)) z⟩⟩
  | inr x =>
    obtain ⟨hlen, H3⟩ := H2 x rfl
    have D10 : CT σ10 rd kn vl t tl x.1 (pr ++ x.2) none := D10
    have xle := D10.2.2.2.2.2.2.2.2.1
    have ll : (pr ++ x.2).length < x.1 := by rw [List.length_append]; omega
    refine CV.of (d2 := 0) (addStep_R C10 D10 (opc_ck (sg_Sum h)) (opc_cv _)) (by omega) (fun σ13 hw13 hp13 => ?_)
    obtain ⟨c13, D13⟩ := hp13
    rw [if_pos (by omega), List.append_assoc] at D13
    rw [nI_1]
    rw [List.length_append] at ll
    refine (H3 σ13 _ d (i + 1) (C10.chg c13) D13 (by simp only [List.length_append, List.length_singleton]; omega) (by omega) (by unfold dS; omega)).post (fun o' σ' q => ⟨q.1, ?_⟩)
    exact CPost_pre ((c8.trans c10).trans c13) q.2
theorem CN_Sum {p o : Nat} {R1 R2 : RS} (H : CN Γ MX6_readProduct (dPr o) rd tx fm kn vl t tl ok p [.ref rd, .int (nI o)] R1) (H2 : ∀ x, R1 = .inr x → p + x.2.length ≤ x.1 ∧ CL Γ MX6_readSum (dS o) rd tx fm kn vl t tl ok x.1 o R2) : CN Γ MX6_readSum (dS o) rd tx fm kn vl t tl ok p [.ref rd, .int (nI o)] (andR R1 (fun x => preR x.2 R2)) := by
  intro σ pr d C D hl hd
  have dp := dF_pos o
  unfold dS at hd
  refine eX6_readSum ⟨C.1, CV.of (d2 := d - 1) (H σ pr (d - 1) C D hl (by unfold dPr; omega)) (by omega) (fun σ1 hw1 hp1 => ?_)⟩
  obtain ⟨c1, D1⟩ := hp1
  cases R1 with
  | inl e =>
    obtain ⟨p', pr', D1⟩ := D1
    have fin : (Sum.inl none : Oc) = .inl none ∧ CPost rd kn vl tl t pr (.inl e) σ σ1 := ⟨rfl, c1, _, _, D1⟩
    exact gX6_readSum_7 ⟨fun _ => fin, fun _ => ⟨(C.chg c1).1, fun _ => fin, fun z => absurd (D1.neg.2.mpr (by simp)) z⟩⟩
  | inr x =>
    obtain ⟨hlen, H3⟩ := H2 x rfl
    have D1 : CT σ1 rd kn vl t tl x.1 (pr ++ x.2) none := D1
    refine (H3 σ1 _ d 0 (C.chg c1) D1 (by rw [List.length_append]; omega) (by omega) (by unfold dS; omega)).post (fun o' σ' q => ⟨q.1, ?_⟩)
    exact CPost_pre c1 q.2
end RD
