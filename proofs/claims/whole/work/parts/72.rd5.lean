/-! ROWS of Reader: brackets, words, constants, numbers of families, factors. -/
section RD
variable {Γ : Gm} {rd tx fm kn vl tl : Nat} {t : Nat → Int32} {ok : Nat → Bool}
theorem CN.fail {d : Nat} {σ : AH} {p : Nat} {pr : List Nat} (C : CRs σ rd tx fm kn vl t tl ok) (D : CT σ rd kn vl t tl p pr none) : RV Γ d MX6_fail [.ref rd] σ (CPost rd kn vl tl t pr (.inl p) σ) :=
  (rfail_R C D).post (fun o σ' _ h => ⟨h.1, h.2.1, _, _, h.2.2⟩)
def brR (t : Nat → Int32) (tl p o : Nat) (R : RS) : RS := if tkd t tl p = 40 ∧ o < 20 then andR R (fun x => if tkd t tl x.1 = 41 then .inr (nxt t tl x.1, x.2) else .inl x.1) else .inl p
theorem CN_br {p o : Nat} {R : RS} (ho : o ≤ 20) (hp : p ≤ tl) (H : tkd t tl p = 40 → o < 20 → CN Γ MX6_readSum (dS (o + 1)) rd tx fm kn vl t tl ok (nxt t tl p) [.ref rd, .int (nI (o + 1))] R) : CN Γ MX6_readBracket (dB o) rd tx fm kn vl t tl ok p [.ref rd, .int (nI o)] (brR t tl p o R) := by
  intro σ pr d C D hl hd
  have dp := dF_pos o
  unfold dB at hd
  have no : ¬ (tkd t tl p = 40 ∧ o < 20) → EV Γ MX6_readBracket d 15 [some (.ref rd), none] [] σ (fun oc σ' => oc = .inl none ∧ CPost rd kn vl tl t pr (brR t tl p o R) σ σ') := by
    intro z
    refine gX6_readBracket_15 ⟨C.1, CV.of (d2 := 0) (CN.fail C D) (by omega) (fun σ1 _ h1 => ⟨rfl, ?_⟩)⟩
    unfold brR; rw [if_neg z]; exact h1
  refine eX6_readBracket ⟨C.1, ?_⟩
  rw [D.2.2.2.1]
  refine ⟨fun z => no (fun y => z y.1), fun z => ⟨fun y => ?_, fun y => no (fun w => y ((nI_ltI (a := o) (b := 20) (by omega) (by omega)).mpr w.2))⟩⟩
  have y := (nI_ltI (a := o) (b := 20) (by omega) (by omega)).mp y
  have lt : p < tl := (tkd_is (by decide) z).1
  have nx := nxt_gt (t := t) lt
  have du := dF_up y
  refine CV.of (d2 := 2) (adv_R C D (by omega)) (by omega) (fun σ4 _ h4 => ⟨(C.chg h4.1).1, ?_⟩)
  rw [nI_1]
  refine CV.of (d2 := d - 1) (H z y σ4 pr (d - 1) (C.chg h4.1) h4.2 (by omega) (by unfold dS; omega)) (by omega) (fun σ6 _ h6 => ⟨((C.chg h4.1).chg h6.1).1, ?_⟩)
  have C6 := (C.chg h4.1).chg h6.1
  obtain ⟨c6, D6⟩ := h6
  unfold brR
  rw [if_pos ⟨z, y⟩]
  cases R with
  | inl e =>
    obtain ⟨p', pr', D6⟩ := D6
    refine ⟨fun w => CV.of (d2 := 2) (adv_R C6 D6 (by omega)) (by omega) (fun σ7 _ h7 => ⟨rfl, (h4.1.trans c6).trans h7.1, _, _, h7.2⟩), fun w => CV.of (d2 := 0) (rfail_R C6 D6) (by omega) (fun σ7 _ h7 => ⟨rfl, (h4.1.trans c6).trans h7.1, _, _, h7.2⟩)⟩
  | inr x =>
    have D6 : CT σ6 rd kn vl t tl x.1 (pr ++ x.2) none := D6
    rw [D6.2.2.2.1]
    refine ⟨fun w => CV.of (d2 := 2) (adv_R C6 D6 (by omega)) (by omega) (fun σ7 _ h7 => ⟨rfl, (h4.1.trans c6).trans h7.1, ?_⟩), fun w => CV.of (d2 := 0) (rfail_R C6 D6) (by omega) (fun σ7 _ h7 => ⟨rfl, (h4.1.trans c6).trans h7.1, ?_⟩)⟩
    · show match (if tkd t tl x.1 = 41 then (Sum.inr (nxt t tl x.1, x.2) : RS) else .inl x.1) with | .inl e => ∃ p' pr', CT σ7 rd kn vl t tl p' pr' (some e) | .inr x => CT σ7 rd kn vl t tl x.1 (pr ++ x.2) none
      rw [if_pos w]; exact h7.2
    · show match (if tkd t tl x.1 = 41 then (Sum.inr (nxt t tl x.1, x.2) : RS) else .inl x.1) with | .inl e => ∃ p' pr', CT σ7 rd kn vl t tl p' pr' (some e) | .inr x => CT σ7 rd kn vl t tl x.1 (pr ++ x.2) none
      rw [if_neg w]; exact ⟨_, _, h7.2⟩
def coR (t : Nat → Int32) (tl p : Nat) : RS := if tnd t tl p = p + 1 ∧ (t p = 48 ∨ t p = 49) then .inr (nxt t tl p, [if t p = 48 then 99 else 100]) else .inl p
theorem step_end {d D : Nat} {σ σ1 : AH} {p : Nat} {pr : List Nat} {s : Nat} {v1 v2 : Int32} (C : CRs σ rd tx fm kn vl t tl ok) (D0 : CT σ rd kn vl t tl p pr none) (hl : pr.length < 200) (h1 : v1 = nI (ckS s)) (h2 : v2 = nI (cvS s)) (hd : 3 ≤ d) (Q : Oc → AH → Prop) (hq : ∀ τ, CPost rd kn vl tl t pr (.inr (nxt t tl p, [s])) σ τ → Q (.inl none) τ) : CV Γ d MX6_addStep [.ref rd, .int v1, .int v2] σ (fun σ1 => hs σ1 rd = some (5, 10) ∧ CV Γ d MX6_advance [.ref rd] σ1 (fun σ4 => Q (.inl none) σ4) (fun E σ4 => Q (.inr E) σ4)) (fun E σ1 => Q (.inr E) σ1) := by
  refine CV.of (d2 := 0) (addStep_R C D0 h1 h2) (by omega) (fun σ1 _ q1 => ?_)
  obtain ⟨c1, D1⟩ := q1
  rw [if_pos hl] at D1
  exact ⟨(C.chg c1).1, CV.of (d2 := 2) (adv_R (C.chg c1) D1 (by omega)) (by omega) (fun σ4 _ q4 => hq σ4 ⟨c1.trans q4.1, q4.2⟩)⟩
theorem CN_co {p : Nat} (hp : p < tl) (hb : isDb (t p) = true) : CN Γ MX6_readConstant 4 rd tx fm kn vl t tl ok p [.ref rd] (coR t tl p) := by
  intro σ pr d C D hl hd
  have tl2 : tl ≤ 200 := C.2.2.2.2.2.2.2.2.2.2.1
  obtain ⟨q1, q2⟩ := tnd_gt (t := t) hp
  have D1 := D.2.1
  have e8 : gi σ rd 8 - gi σ rd 7 = nI (tnd t tl p - p) := by rw [D.2.2.1, D.2.1]; exact pk_sub (by omega)
  have no : ¬ (tnd t tl p = p + 1 ∧ (t p = 48 ∨ t p = 49)) → EV Γ MX6_readConstant d 34 [some (.ref rd), none] [] σ (fun oc σ' => oc = .inl none ∧ CPost rd kn vl tl t pr (coR t tl p) σ σ') := by
    intro z
    refine gX6_readConstant_34 ⟨C.1, CV.of (d2 := 0) (CN.fail C D) (by omega) (fun σ1 _ h1 => ⟨rfl, ?_⟩)⟩
    unfold coR; rw [if_neg z]; exact h1
  refine eX6_readConstant ⟨C.1, ?_⟩
  rw [D1]
  refine CI.of (d2 := 0) (at_R C D.1 hp) (by omega) (fun r σ1 hw hp2 => ?_)
  obtain ⟨rfl, rfl⟩ := hp2
  refine ⟨C.1, ?_⟩
  rw [e8]
  refine ⟨fun z => no (fun y => z (by rw [y.1, show p + 1 - p = 1 by omega]; rfl)), fun z => ?_⟩
  have z1 : tnd t tl p = p + 1 := by
    have := (nI_eq (a := tnd t tl p - p) (b := 1) (by omega) (by omega)).mp z
    omega
  have yes : ∀ s v, v = nI (ckS s) → cvS s = 0 → (coR t tl p = .inr (nxt t tl p, [s])) → EV Γ MX6_readConstant d 53 [some (.ref rd), none] [.int v, .ref rd] σ1 (fun oc σ' => oc = .inl none ∧ CPost rd kn vl tl t pr (coR t tl p) σ1 σ') := by
    intro s v hv hc0 hr
    refine gX6_readConstant_53 ⟨C.1, ?_⟩
    refine step_end (D := 0) (σ1 := σ1) C D (by omega) hv (by rw [hc0]; rfl) (by omega) (fun oc σ' => oc = .inl none ∧ CPost rd kn vl tl t pr (coR t tl p) σ1 σ') (fun τ h => ⟨rfl, ?_⟩)
    rw [hr]; exact h
  refine ⟨fun w => gX6_readConstant_39 ⟨fun y => absurd w y, fun y => yes 99 9 (by decide) (by decide) ?_⟩, fun w => ⟨fun w2 => gX6_readConstant_39 ⟨fun y => yes 100 8 (by decide) (by decide) ?_, fun y => absurd y w⟩, fun w2 => no (fun y => y.2.elim w w2)⟩⟩
  · unfold coR; rw [if_pos ⟨z1, Or.inl w⟩, if_pos w]
  · unfold coR; rw [if_pos ⟨z1, Or.inr w2⟩, if_neg w]
def fnR (t : Nat → Int32) (tl : Nat) (ok : Nat → Bool) (p : Nat) : RS := if (p < tl ∧ isDb (t p) = true) ∧ tnd t tl p - p ≤ 9 ∧ nvW t (tnd t tl p - p) p 0 < 200 ∧ ok (nvW t (tnd t tl p - p) p 0) = true then .inr (nxt t tl p, [10000 + nvW t (tnd t tl p - p) p 0]) else .inl p
theorem CN_fn {p : Nat} : CN Γ MX6_readFamilyNumber 4 rd tx fm kn vl t tl ok p [.ref rd] (fnR t tl ok p) := by
  intro σ pr d C D hl hd
  have tl2 : tl ≤ 200 := C.2.2.2.2.2.2.2.2.2.2.1
  have hpl := D.2.2.2.2.2.2.2.2.1
  have no : ¬ ((p < tl ∧ isDb (t p) = true) ∧ tnd t tl p - p ≤ 9 ∧ nvW t (tnd t tl p - p) p 0 < 200 ∧ ok (nvW t (tnd t tl p - p) p 0) = true) → (EV Γ MX6_readFamilyNumber d 23 [some (.ref rd), none, none] [] σ (fun oc σ' => oc = .inl none ∧ CPost rd kn vl tl t pr (fnR t tl ok p) σ σ')) ∧ EV Γ MX6_readFamilyNumber d 85 [some (.ref rd), none, none] [] σ (fun oc σ' => oc = .inl none ∧ CPost rd kn vl tl t pr (fnR t tl ok p) σ σ') := by
    intro z
    constructor
    · refine gX6_readFamilyNumber_23 ⟨C.1, CV.of (d2 := 0) (CN.fail C D) (by omega) (fun σ1 _ h1 => ⟨rfl, ?_⟩)⟩
      unfold fnR; rw [if_neg z]; exact h1
    · refine gX6_readFamilyNumber_85 ⟨C.1, CV.of (d2 := 0) (CN.fail C D) (by omega) (fun σ1 _ h1 => ⟨rfl, ?_⟩)⟩
      unfold fnR; rw [if_neg z]; exact h1
  refine eX6_readFamilyNumber ⟨C.1, ?_⟩
  rw [D.2.2.2.1]
  refine ⟨fun z => (no (fun y => z (tkd_13.mpr y.1))).1, fun z => ?_⟩
  have hk := tkd_13.mp z
  obtain ⟨q1, q2⟩ := tnd_gt (t := t) hk.1
  have e8 : gi σ rd 8 - gi σ rd 7 = nI (tnd t tl p - p) := by rw [D.2.2.1, D.2.1]; exact pk_sub (by omega)
  rw [e8]
  refine ⟨fun y => ?_, fun y => (no (fun w => y ((nI_leI (a := tnd t tl p - p) (b := 9) (by omega) (by omega)).mpr w.2.1))).1⟩
  have y9 := (nI_leI (a := tnd t tl p - p) (b := 9) (by omega) (by omega)).mp y
  have digs : ∀ j, p ≤ j → j < tnd t tl p → isDb (t j) = true := fun j a b => scn_in (f := isDb) a (by rw [← tnd_D hk.1 hk.2]; exact b)
  have big : nvW t (tnd t tl p - p) p 0 < 2 ^ 31 := by
    have := nvW_lt t (tnd t tl p - p) p 0 0 (fun j a b => digs j a (by omega)) (by omega)
    have h10 : 10 ^ (0 + (tnd t tl p - p)) ≤ 10 ^ 9 := Nat.pow_le_pow_right (by decide) (by omega)
    have : (10 : Nat) ^ 9 < 2 ^ 31 := by decide
    omega
  have D8 := D.2.2.1
  have L : ∀ n i v, i + n = tnd t tl p → p ≤ i → nvW t n i v = nvW t (tnd t tl p - p) p 0 → EV Γ MX6_readFamilyNumber d 35 [some (.ref rd), some (.int (nI v)), some (.int (nI i))] [] σ (fun oc σ' => oc = .inl none ∧ CPost rd kn vl tl t pr (fnR t tl ok p) σ σ') := by
    intro n
    induction n with
    | zero =>
      intro i v hi hpi hh
      have hv' : v = nvW t (tnd t tl p - p) p 0 := hh
      rw [← hv'] at big
      refine gX6_readFamilyNumber_35 ⟨C.1, fun _ => ⟨fun w => absurd w (nI_pos big), fun _ => ⟨fm, C.2.2.2.2.1, 200, C.2.2.2.2.2.2.2.2.2.1, fun w => (no (fun u => ?_)).2, fun w => ?_⟩⟩, fun w => absurd (by rw [D8]; exact nI_le (by omega) (by omega)) w⟩
      · have := (nI_leI (a := 200) (b := v) (by omega) big).mp w
        rw [← hv'] at u; omega
      · have lt : v < 200 := by
          rcases Nat.lt_or_ge v 200 with c | c
          · exact c
          · exact absurd ((nI_leI (a := 200) (b := v) (by omega) big).mpr c) w
        have okv := C.2.2.2.2.2.2.2.2.2.2.2.2 v lt
        refine ⟨v, IXn lt (by omega), fun u => (no (fun y => ?_)).2, fun t11 u => ?_⟩
        · rw [← hv', okv.mp u] at y; exact absurd y.2.2.2 (by decide)
        · have okt : ok v = true := by
            cases q : ok v
            · rw [okv.mpr q] at u; exact absurd u (by simp)
            · rfl
          refine step_end (D := 0) (σ1 := σ) (s := 10000 + v) C D (by omega) (by rw [ck_fam]; rfl) (by rw [cv_fam]) (by omega) (fun oc σ' => oc = .inl none ∧ CPost rd kn vl tl t pr (fnR t tl ok p) σ σ') (fun τ h => ⟨rfl, ?_⟩)
          unfold fnR
          rw [← hv', if_pos ⟨hk, y9, lt, okt⟩]; exact h
    | succ n ih =>
      intro i v hi hpi hh
      refine gX6_readFamilyNumber_35 ⟨C.1, fun w => absurd (by rw [D8] at w; exact (nI_leI (by omega) (by omega)).mp w) (by omega), fun _ => ?_⟩
      refine CI.of (d2 := 0) (at_R C D.1 (by omega)) (by omega) (fun r σ1 hw hp2 => ?_)
      obtain ⟨rfl, rfl⟩ := hp2
      rw [(dig_step (digs i hpi (by omega))).2, nI_1]
      exact ih (i + 1) _ (by omega) (by omega) hh
  rw [D.2.1]
  exact L (tnd t tl p - p) p 0 (by omega) (Nat.le_refl _) rfl
def wdR (t : Nat → Int32) (tl p : Nat) (R : RS) : RS := if fnW t p (tnd t tl p) = 0 then (match mkW t (tnd t tl p - p) p 0 with | none => .inl p | some m => .inr (nxt t tl p, [100 + m])) else andR R (fun x => .inr (x.1, x.2 ++ [fnW t p (tnd t tl p)]))
theorem fnW_r (t : Nat → Int32) (p q : Nat) : fnW t p q = 0 ∨ (10 ≤ fnW t p q ∧ fnW t p q ≤ 13) := by
  unfold fnW
  split
  · omega
  · split
    · omega
    · split
      · omega
      · split <;> omega
theorem clsOp_ne {s : Nat} (h : 10 ≤ s ∧ s ≤ 13) : nI (clsOp s) ≠ 0 := by
  have : ∀ s, s < 14 → 10 ≤ s → nI (clsOp s) ≠ 0 := by decide +kernel
  exact this s (by omega) h.1
theorem CN_wd {p o : Nat} {R : RS} (hp : p < tl) (hb : isLb (t p) = true) (ho : o ≤ 20) (H : CN Γ MX6_readBracket (dB o) rd tx fm kn vl t tl ok (nxt t tl p) [.ref rd, .int (nI o)] R) (H2 : ∀ x, R = .inr x → nxt t tl p + x.2.length ≤ x.1) : CN Γ MX6_readWord (dW o) rd tx fm kn vl t tl ok p [.ref rd, .int (nI o)] (wdR t tl p R) := by
  intro σ pr d C D hl hd
  have dp := dF_pos o
  have tl2 : tl ≤ 200 := C.2.2.2.2.2.2.2.2.2.2.1
  have nx := nxt_gt (t := t) hp
  obtain ⟨q1, q2⟩ := tnd_gt (t := t) hp
  unfold dW at hd
  refine eX6_readWord ⟨C.1, CI.of (d2 := 2) (fnOf_R C D hp (by omega)) (by omega) (fun r σ1 hw hr => ?_)⟩
  obtain ⟨rfl, rfl⟩ := hr
  rcases fnW_r t p (tnd t tl p) with h0 | h0
  · rw [if_pos h0]
    refine ⟨fun _ => ⟨C.1, ?_⟩, fun z => absurd rfl z⟩
    refine CI.of (d2 := 1) (mkOf_R C D hp (by omega)) (by omega) (fun r σ5 hw hr => ?_)
    obtain ⟨rfl, hr⟩ := hr
    cases hm : mkW t (tnd t tl p - p) p 0 with
    | none =>
      rw [hm] at hr
      have hr : r = 0 := hr
      refine ⟨fun z => absurd hr z, fun _ => ⟨C.1, CV.of (d2 := 0) (CN.fail C D) (by omega) (fun σ9 _ h9 => ⟨rfl, ?_⟩)⟩⟩
      unfold wdR; rw [if_pos h0, hm]; exact h9
    | some m =>
      rw [hm] at hr
      have hr : r = nI m := hr
      have ml := mkW_lt t (tnd t tl p - p) p 0 m (by omega) hm
      refine ⟨fun _ => ⟨C.1, ?_⟩, fun z => absurd (hr.symm.trans z) (nI_ne0 (by have := ml.2.2 (by omega); omega) (by omega))⟩
      refine step_end (D := 0) (σ1 := σ5) (s := 100 + m) C D (by omega) (by rw [ck_set ml.1]; rfl) (by rw [cv_set ml.1]; exact hr) (by omega) (fun oc σ' => oc = .inl none ∧ CPost rd kn vl tl t pr (wdR t tl p R) σ5 σ') (fun τ h => ⟨rfl, ?_⟩)
      unfold wdR; rw [if_pos h0, hm]; exact h
  · rw [if_neg (by omega)]
    refine ⟨fun z => absurd z (clsOp_ne h0), fun _ => ⟨C.1, ?_⟩⟩
    refine CV.of (d2 := 2) (adv_R C D (by omega)) (by omega) (fun σ18 _ h18 => ⟨(C.chg h18.1).1, ?_⟩)
    have C18 := C.chg h18.1
    refine CV.of (d2 := d - 1) (H σ18 pr (d - 1) C18 h18.2 (by omega) (by unfold dB; omega)) (by omega) (fun σ21 _ h21 => ⟨(C18.chg h21.1).1, ?_⟩)
    obtain ⟨c21, D21⟩ := h21
    have C21 := C18.chg c21
    unfold wdR
    rw [if_neg (by omega)]
    cases R with
    | inl e =>
      obtain ⟨p', pr', D21⟩ := D21
      exact CV.of (d2 := 0) (addStep_R (s := fnW t p (tnd t tl p)) C21 D21 (by rw [ck_op (by omega)]) (by rw [cv_op (by omega)]; rfl)) (by omega) (fun σ24 _ h24 => ⟨rfl, (h18.1.trans c21).trans h24.1, _, _, h24.2⟩)
    | inr x =>
      have D21 : CT σ21 rd kn vl t tl x.1 (pr ++ x.2) none := D21
      have xle := D21.2.2.2.2.2.2.2.2.1
      have := H2 x rfl
      refine CV.of (d2 := 0) (addStep_R (s := fnW t p (tnd t tl p)) C21 D21 (by rw [ck_op (by omega)]) (by rw [cv_op (by omega)]; rfl)) (by omega) (fun σ24 _ h24 => ⟨rfl, (h18.1.trans c21).trans h24.1, ?_⟩)
      have D24 := h24.2
      rw [if_pos (by rw [List.length_append]; omega), List.append_assoc] at D24
      exact D24
/-- a factor: by the token's kind -/
def faR (t : Nat → Int32) (tl : Nat) (ok : Nat → Bool) (p o : Nat) (Rs Rw : RS) : RS := if tkd t tl p = 12 then wdR t tl p (brR t tl (nxt t tl p) o Rw) else if tkd t tl p = 13 then coR t tl p else if tkd t tl p = 35 then fnR t tl ok (nxt t tl p) else if tkd t tl p = 40 then brR t tl p o Rs else .inl p
theorem tkI {x : Int32} (k : Nat) (hk : k < 100) : x.toInt = (k : Int) ↔ x = nI k := by
  constructor
  · intro h
    exact Int32.toInt_inj.mp (h.trans (nI_toInt (by omega)).symm)
  · intro h; rw [h]; exact nI_toInt (by omega)
theorem CN_fa {p o : Nat} {Rs Rw : RS} (hp : p ≤ tl) (ho : o ≤ 20)
    (H : tkd t tl p = 40 → o < 20 → CN Γ MX6_readSum (dS (o + 1)) rd tx fm kn vl t tl ok (nxt t tl p) [.ref rd, .int (nI (o + 1))] Rs)
    (Hw : tkd t tl p = 12 → tkd t tl (nxt t tl p) = 40 → o < 20 → CN Γ MX6_readSum (dS (o + 1)) rd tx fm kn vl t tl ok (nxt t tl (nxt t tl p)) [.ref rd, .int (nI (o + 1))] Rw)
    (Hl : tkd t tl p = 12 → ∀ x, brR t tl (nxt t tl p) o Rw = .inr x → nxt t tl p + x.2.length ≤ x.1) :
    CN Γ MX6_readFactor (dF o) rd tx fm kn vl t tl ok p [.ref rd, .int (nI o)] (faR t tl ok p o Rs Rw) := by
  intro σ pr d C D hl hd
  have dp := dF_pos o
  refine eX6_readFactor ⟨C.1, fun _ => ?_, fun z => absurd (D.neg.1.mpr rfl) z⟩
  rw [D.2.2.2.1]
  refine ⟨fun z => ?_, fun z => ?_, fun z => ?_, fun z => ?_, fun z => ?_⟩
  · have z : tkd t tl p = 12 := (tkI 12 (by omega)).mp z
    have k := tkd_12.mp z
    refine CV.of (d2 := d - 1) (CN_wd k.1 k.2 ho (CN_br ho (nxt_le hp) (Hw z)) (Hl z) σ pr (d - 1) C D hl (by unfold dW; omega)) (by omega) (fun σ4 _ h4 => ⟨rfl, ?_⟩)
    unfold faR; rw [if_pos z]; exact h4
  · have z : tkd t tl p = 13 := (tkI 13 (by omega)).mp z
    have k := tkd_13.mp z
    refine CV.of (d2 := 4) (CN_co k.1 k.2 σ pr 4 C D hl (by omega)) (by omega) (fun σ4 _ h4 => ⟨rfl, ?_⟩)
    unfold faR; rw [if_neg (by rw [z]; decide), if_pos z]; exact h4
  · have z : tkd t tl p = 35 := (tkI 35 (by omega)).mp z
    have k := tkd_is (by decide) z
    have nx := nxt_gt (t := t) k.1
    refine CV.of (d2 := 2) (adv_R C D (by omega)) (by omega) (fun σ10 _ h10 => ⟨(C.chg h10.1).1, ?_⟩)
    refine CV.of (d2 := 4) (CN_fn σ10 pr 4 (C.chg h10.1) h10.2 (by omega) (by omega)) (by omega) (fun σ12 _ h12 => ⟨rfl, ?_⟩)
    unfold faR; rw [if_neg (by rw [z]; decide), if_neg (by rw [z]; decide), if_pos z]
    exact ⟨h10.1.trans h12.1, h12.2⟩
  · have z : tkd t tl p = 40 := (tkI 40 (by omega)).mp z
    refine CV.of (d2 := d - 1) (CN_br ho hp H σ pr (d - 1) C D hl (by unfold dB; omega)) (by omega) (fun σ4 _ h4 => ⟨rfl, ?_⟩)
    unfold faR; rw [if_neg (by rw [z]; decide), if_neg (by rw [z]; decide), if_neg (by rw [z]; decide), if_pos z]; exact h4
  · have y : ∀ k : Nat, k < 100 → ¬ (tkd t tl p).toInt = (k : Int) → tkd t tl p ≠ nI k := fun k hk a b => a ((tkI k hk).mpr b)
    refine CV.of (d2 := 0) (CN.fail C D) (by omega) (fun σ4 _ h4 => ⟨rfl, ?_⟩)
    unfold faR
    rw [if_neg (show tkd t tl p ≠ 12 from y 12 (by omega) z.1), if_neg (show tkd t tl p ≠ 13 from y 13 (by omega) z.2.1), if_neg (show tkd t tl p ≠ 35 from y 35 (by omega) z.2.2.1), if_neg (show tkd t tl p ≠ 40 from y 40 (by omega) z.2.2.2)]
    exact h4
end RD
