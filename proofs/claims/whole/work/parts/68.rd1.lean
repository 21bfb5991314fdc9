/-! ROWS of Reader: the state, and the small methods. -/
def cI (rd kn vl : Nat) : Nat → Prop := fun a => a = rd ∨ a = kn ∨ a = vl
def nJ : Nat → Prop := fun _ => False
/-- what stands while an expression is read -/
def CRs (σ : AH) (rd tx fm kn vl : Nat) (t : Nat → Int32) (tl : Nat) (ok : Nat → Bool) : Prop :=
  hs σ rd = some (5, 10) ∧ gr σ rd 0 = some kn ∧ gr σ rd 1 = some vl ∧ gr σ rd 3 = some tx ∧ gr σ rd 5 = some fm ∧ hs σ kn = some (22, 200) ∧ hs σ vl = some (22, 200) ∧ kn ≠ vl ∧ hs σ tx = some (20, 200) ∧ hs σ fm = some (25, 200) ∧ tl ≤ 200 ∧ (∀ i, i < tl → gi σ tx i = t i) ∧ ∀ i, i < 200 → (gr σ fm i = none ↔ ok i = false)
theorem CRs.chg {σ σ' : AH} {rd tx fm kn vl tl : Nat} {t : Nat → Int32} {ok : Nat → Bool} (C : CRs σ rd tx fm kn vl t tl ok) (h : Chg (cI rd kn vl) nJ σ σ') : CRs σ' rd tx fm kn vl t tl ok := by
  obtain ⟨C0, C1, C2, C3, C4, C5, C6, C7, C8, C9, C10, C11, C12⟩ := C
  have n1 : tx ≠ rd := hs_ne C8 C0 (show (20 : Nat) ≠ 5 by decide)
  have n2 : tx ≠ kn := hs_ne C8 C5 (show (20 : Nat) ≠ 22 by decide)
  have n3 : tx ≠ vl := hs_ne C8 C6 (show (20 : Nat) ≠ 22 by decide)
  refine ⟨h.gh C0, h.gg C1, h.gg C2, h.gg C3, h.gg C4, h.gh C5, h.gh C6, C7, h.gh C8, h.gh C9, C10, fun i hi => ?_, fun i hi => ?_⟩
  · rw [h.gi (fun z => z.elim n1 (fun z => z.elim n2 n3))]; exact C11 i hi
  · rw [h.2.2.2.1]; exact C12 i hi
def errI (e : Option Nat) : Int32 := match e with
  | none => -1
  | some e => nI e
theorem errI_neg {e : Option Nat} (he : ∀ x, e = some x → x < 2 ^ 31) : (errI e < 0 ↔ e = none) ∧ (0 ≤ errI e ↔ e ≠ none) := by
  cases e with
  | none => exact ⟨⟨fun _ => rfl, fun _ => by show (-1 : Int32) < 0; decide⟩, ⟨fun h => absurd h (by show ¬ (0 : Int32) ≤ -1; decide), fun h => absurd rfl h⟩⟩
  | some x =>
    have := he x rfl
    exact ⟨⟨fun h => absurd h (nI_pos this), fun h => by simp at h⟩, ⟨fun _ => by simp, fun _ => nI_pos' this⟩⟩
/-- where it stands: the token at p, the steps so far, the first error -/
def CT (σ : AH) (rd kn vl : Nat) (t : Nat → Int32) (tl p : Nat) (pr : List Nat) (e : Option Nat) : Prop :=
  gi σ rd 4 = nI tl ∧ gi σ rd 7 = nI p ∧ gi σ rd 8 = nI (tnd t tl p) ∧ gi σ rd 6 = tkd t tl p ∧ gi σ rd 2 = nI pr.length ∧ gi σ rd 9 = errI e ∧ pr.length ≤ 200 ∧ (∀ j s, pr[j]? = some s → gi σ kn j = nI (ckS s) ∧ gi σ vl j = nI (cvS s)) ∧ p ≤ tl ∧ skp t tl p = p ∧ ∀ x, e = some x → x ≤ 200
theorem CT.neg {σ : AH} {rd kn vl tl p : Nat} {t : Nat → Int32} {pr : List Nat} {e : Option Nat} (D : CT σ rd kn vl t tl p pr e) : (gi σ rd 9 < 0 ↔ e = none) ∧ (0 ≤ gi σ rd 9 ↔ e ≠ none) := by
  obtain ⟨-, -, -, -, -, D5, -, -, -, -, D10⟩ := D
  rw [D5]
  exact errI_neg (fun x hx => by have := D10 x hx; omega)
section RD
variable {Γ : Gm} {d : Nat} {σ : AH} {rd tx fm kn vl tl p : Nat} {t : Nat → Int32} {ok : Nat → Bool} {pr : List Nat} {e : Option Nat}
theorem at_R {i : Nat} (C : CRs σ rd tx fm kn vl t tl ok) (h4 : gi σ rd 4 = nI tl) (hi : i < tl) : RI Γ d MX6_at [.ref rd, .int (nI i)] σ (fun r σ' => σ' = σ ∧ r = t i) := by
  obtain ⟨C0, C1, C2, C3, C4, C5, C6, C7, C8, C9, C10, C11, C12⟩ := C
  refine eX6_at ⟨fun z => absurd z (nn0 (by omega)), fun _ => ⟨C0, fun z => ?_, fun _ => ⟨tx, C3, 200, C8, fun z => ?_, fun _ => ⟨i, IXn (by omega) (by omega), _, rfl, rfl, C11 i hi⟩⟩⟩⟩
  · rw [h4] at z; exact absurd ((nI_leI (by omega) (by omega)).mp z) (by omega)
  · exact absurd ((nI_leI (by omega) (by omega)).mp z) (by omega)
theorem rfail_R (C : CRs σ rd tx fm kn vl t tl ok) (D : CT σ rd kn vl t tl p pr e) : RV Γ d MX6_fail [.ref rd] σ (fun σ' => Chg (cI rd kn vl) nJ σ σ' ∧ CT σ' rd kn vl t tl p pr (some (e.getD p))) := by
  have hn := D.neg
  obtain ⟨C0, C1, C2, C3, C4, C5, C6, C7, C8, C9, C10, C11, C12⟩ := C
  have n1 : kn ≠ rd := hs_ne C5 C0 (show (22 : Nat) ≠ 5 by decide)
  have n2 : vl ≠ rd := hs_ne C6 C0 (show (22 : Nat) ≠ 5 by decide)
  refine eX6_fail ⟨C0, fun z => ?_, fun z => ?_⟩
  · have := hn.2.mp z
    cases e with
    | none => exact absurd rfl this
    | some x => exact ⟨rfl, Chg.refl _ _ _, D⟩
  · have : e = none := by
      cases e with
      | none => rfl
      | some x => exact absurd (hn.2.mpr (by simp)) z
    subst this
    intro τ ht
    obtain ⟨D0, D1, D2, D3, D4, D5, D6, D7, D8, D9, D10⟩ := D
    rw [D1] at ht
    refine ⟨rfl, by rw [ht]; exact Chg.rowI σ _ (Or.inl rfl), ?_⟩
    unfold CT
    rw [ht, gi_setI_s, gi_setI_n _ _ _ n1, gi_setI_n _ _ _ n2]
    exact ⟨by rw [up_ne _ _ (by decide)]; exact D0, by rw [up_ne _ _ (by decide)]; exact D1, by rw [up_ne _ _ (by decide)]; exact D2, by rw [up_ne _ _ (by decide)]; exact D3, by rw [up_ne _ _ (by decide)]; exact D4, up_same _ _ _, D6, D7, D8, D9, fun x hx => by
      have : p = x := Option.some.inj hx
      omega⟩
theorem list_snoc {pr : List Nat} {s j x : Nat} (h : (pr ++ [s])[j]? = some x) : (j < pr.length ∧ pr[j]? = some x) ∨ (j = pr.length ∧ x = s) := by
  rcases Nat.lt_or_ge j pr.length with c | c
  · rw [List.getElem?_append_left c] at h
    exact Or.inl ⟨c, h⟩
  · rw [List.getElem?_append_right c] at h
    rcases Nat.eq_zero_or_pos (j - pr.length) with z | z
    · rw [z] at h
      exact Or.inr ⟨by omega, (Option.some.inj h).symm⟩
    · have : ([s] : List Nat)[j - pr.length]? = none := List.getElem?_eq_none (show 1 ≤ j - pr.length from z)
      rw [this] at h; exact absurd h (by simp)
/-- a step more, or none if there is no place -/
theorem addStep_R {s : Nat} {v1 v2 : Int32} (C : CRs σ rd tx fm kn vl t tl ok) (D : CT σ rd kn vl t tl p pr e) (h1 : v1 = nI (ckS s)) (h2 : v2 = nI (cvS s)) : RV Γ d MX6_addStep [.ref rd, .int v1, .int v2] σ (fun σ' => Chg (cI rd kn vl) nJ σ σ' ∧ CT σ' rd kn vl t tl p (if pr.length < 200 then pr ++ [s] else pr) e) := by
  have C' := C
  obtain ⟨C0, C1, C2, C3, C4, C5, C6, C7, C8, C9, C10, C11, C12⟩ := C'
  have D' := D
  obtain ⟨D0, D1, D2, D3, D4, D5, D6, D7, D8, D9, D10⟩ := D'
  have n1 : kn ≠ rd := hs_ne C5 C0 (show (22 : Nat) ≠ 5 by decide)
  have n2 : vl ≠ rd := hs_ne C6 C0 (show (22 : Nat) ≠ 5 by decide)
  refine eX6_addStep ⟨C0, kn, C1, 200, C5, fun z => ?_, fun z => ⟨vl, C2, 200, C6, fun w => absurd w z, fun _ => ⟨pr.length, ?_, fun σ1 e1 => ⟨pr.length, ?_, fun σ2 e2 σ3 e3 => ?_⟩⟩⟩⟩
  · rw [D4] at z
    have := (nI_leI (a := 200) (b := pr.length) (by omega) (by omega)).mp z
    rw [if_neg (by omega)]
    exact ⟨rfl, Chg.refl _ _ _, D⟩
  all_goals
    have lt : pr.length < 200 := by
      rw [D4] at z
      rcases Nat.lt_or_ge pr.length 200 with c | c
      · exact c
      · exact absurd ((nI_leI (a := 200) (b := pr.length) (by omega) (by omega)).mpr c) z
  · rw [D4]; exact IXn lt (by omega)
  · rw [e1, gi_setI_n _ _ _ (Ne.symm n1), D4]; exact IXn lt (by omega)
  · have g2 : gi σ2 rd = gi σ rd := by rw [e2, gi_setI_n _ _ _ (Ne.symm n2), e1, gi_setI_n _ _ _ (Ne.symm n1)]
    rw [g2, D4, nI_1] at e3
    rw [if_pos lt]
    refine ⟨rfl, ?_, ?_⟩
    · rw [e3, e2, e1]
      exact ((Chg.rowI (J := nJ) σ _ (Or.inr (Or.inl rfl))).trans (Chg.rowI _ _ (Or.inr (Or.inr rfl)))).trans (Chg.rowI _ _ (Or.inl rfl))
    · have gd3 : gi σ3 rd = up (gi σ rd) 2 (nI (pr.length + 1)) := by rw [e3, gi_setI_s, g2]
      have gk3 : gi σ3 kn = up (gi σ kn) pr.length v1 := by rw [e3, gi_setI_n _ _ _ n1, e2, gi_setI_n _ _ _ C7, e1, gi_setI_s]
      have gv3 : gi σ3 vl = up (gi σ vl) pr.length v2 := by rw [e3, gi_setI_n _ _ _ n2, e2, gi_setI_s, e1, gi_setI_n _ _ _ (Ne.symm C7)]
      unfold CT
      rw [gd3, gk3, gv3, List.length_append]
      refine ⟨by rw [up_ne _ _ (by decide)]; exact D0, by rw [up_ne _ _ (by decide)]; exact D1, by rw [up_ne _ _ (by decide)]; exact D2, by rw [up_ne _ _ (by decide)]; exact D3, up_same _ _ _, by rw [up_ne _ _ (by decide)]; exact D5, by show pr.length + 1 ≤ 200; omega, fun j x hj => ?_, D8, D9, D10⟩
      rcases list_snoc hj with ⟨c, q⟩ | ⟨c, q⟩
      · rw [up_ne _ _ (by omega), up_ne _ _ (by omega)]; exact D7 j x q
      · subst c; subst q
        rw [up_same, up_same]; exact ⟨h1, h2⟩
theorem isSum_R {x : Int32} : RI Γ d MX6_isSumSign [.int x] σ (fun r σ' => σ' = σ ∧ r = b2i (isSumb x)) := by
  refine eX6_isSumSign ⟨fun z => ⟨_, rfl, rfl, ?_⟩, fun z => ⟨fun y => ⟨_, rfl, rfl, ?_⟩, fun y => ⟨fun w => ⟨_, rfl, rfl, ?_⟩, fun w => ⟨_, rfl, rfl, ?_⟩⟩⟩⟩ <;> unfold isSumb
  · rw [decide_eq_true z]; rfl
  · rw [decide_eq_true y, decide_eq_false z]; rfl
  · rw [decide_eq_false z, decide_eq_false y, decide_eq_false w]; rfl
  · rw [decide_eq_false z, decide_eq_false y, decide_eq_true w]; rfl
theorem isPr_R {x : Int32} : RI Γ d MX6_isProductSign [.int x] σ (fun r σ' => σ' = σ ∧ r = b2i (isPrb x)) := by
  refine eX6_isProductSign ⟨fun z => ⟨_, rfl, rfl, ?_⟩, fun z => ⟨fun y => ⟨_, rfl, rfl, ?_⟩, fun y => ⟨fun w => ⟨_, rfl, rfl, ?_⟩, fun w => ⟨_, rfl, rfl, ?_⟩⟩⟩⟩ <;> unfold isPrb
  · rw [decide_eq_true z]; rfl
  · rw [decide_eq_true y, decide_eq_false z]; rfl
  · rw [decide_eq_false z, decide_eq_false y, decide_eq_false w]; rfl
  · rw [decide_eq_false z, decide_eq_false y, decide_eq_true w]; rfl
theorem b2i_ne0 (b : Bool) : b2i b ≠ 0 ↔ b = true := by cases b <;> decide
theorem isSy_R {x : Int32} (hd : 1 ≤ d) : RI Γ d MX6_isSymbol [.int x] σ (fun r σ' => σ' = σ ∧ r = b2i (isSyb x)) := by
  refine eX6_isSymbol (CI.of (d2 := 0) isSum_R (by omega) (fun r σ1 hw hp => ?_))
  obtain ⟨rfl, rfl⟩ := hp
  refine ⟨fun z => ⟨_, rfl, rfl, ?_⟩, fun z => CI.of (d2 := 0) isPr_R (by omega) (fun r σ2 hw2 hp => ?_)⟩
  · unfold isSyb; rw [(b2i_ne0 _).mp z]; rfl
  · obtain ⟨rfl, rfl⟩ := hp
    have z1 := (b2i_0 _).mp z
    refine ⟨fun y => ⟨_, rfl, rfl, ?_⟩, fun y => ⟨fun w => ⟨_, rfl, rfl, ?_⟩, fun w => ⟨fun v => ⟨_, rfl, rfl, ?_⟩, fun v => ⟨fun u => ⟨_, rfl, rfl, ?_⟩, fun u => ⟨_, rfl, rfl, ?_⟩⟩⟩⟩⟩ <;> unfold isSyb <;> rw [z1]
    · rw [(b2i_ne0 _).mp y]; rfl
    all_goals rw [(b2i_0 _).mp y]
    · rw [decide_eq_true w]; rfl
    all_goals rw [decide_eq_false w]
    · rw [decide_eq_true v]; rfl
    all_goals rw [decide_eq_false v]
    · rw [decide_eq_false u]; rfl
    · rw [decide_eq_true u]; rfl
theorem isL_R {x : Int32} : RI Γ d MX6_isLetter [.int x] σ (fun r σ' => σ' = σ ∧ r = b2i (isLb x)) := by
  refine eX6_isLetter ⟨fun z => ⟨_, rfl, rfl, ?_⟩, fun z => ⟨fun y => ⟨_, rfl, rfl, ?_⟩, fun y => ⟨_, rfl, rfl, ?_⟩⟩⟩ <;> unfold isLb
  · rw [decide_eq_true z]; rfl
  · rw [decide_eq_false z, decide_eq_true y]; rfl
  · rw [decide_eq_false z, decide_eq_false y]; rfl
theorem isD_R {x : Int32} : RI Γ d MX6_isDigit [.int x] σ (fun r σ' => σ' = σ ∧ r = b2i (isDb x)) := by
  refine eX6_isDigit ⟨fun z => ⟨_, rfl, rfl, ?_⟩, fun z => ⟨fun y => ⟨_, rfl, rfl, ?_⟩, fun y => ⟨_, rfl, rfl, ?_⟩⟩⟩ <;> unfold isDb
  · rw [decide_eq_true z]; rfl
  · rw [decide_eq_false z, decide_eq_true y]; rfl
  · rw [decide_eq_false z, decide_eq_false y]; rfl
end RD
