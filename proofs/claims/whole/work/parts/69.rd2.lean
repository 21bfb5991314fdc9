/-! ROWS of Reader: advance. -/
def CB (σ : AH) (rd kn vl tl : Nat) (pr : List Nat) (e : Option Nat) : Prop :=
  gi σ rd 4 = nI tl ∧ gi σ rd 2 = nI pr.length ∧ gi σ rd 9 = errI e ∧ pr.length ≤ 200 ∧ (∀ j s, pr[j]? = some s → gi σ kn j = nI (ckS s) ∧ gi σ vl j = nI (cvS s)) ∧ ∀ x, e = some x → x ≤ 200
theorem CT.cb {σ : AH} {rd kn vl tl p : Nat} {t : Nat → Int32} {pr : List Nat} {e : Option Nat} (D : CT σ rd kn vl t tl p pr e) : CB σ rd kn vl tl pr e := by
  obtain ⟨D0, D1, D2, D3, D4, D5, D6, D7, D8, D9, D10⟩ := D
  exact ⟨D0, D4, D5, D6, D7, D10⟩
theorem CB.cd {σ : AH} {rd kn vl tl p : Nat} {t : Nat → Int32} {pr : List Nat} {e : Option Nat} (B : CB σ rd kn vl tl pr e) (h7 : gi σ rd 7 = nI p) (h8 : gi σ rd 8 = nI (tnd t tl p)) (h6 : gi σ rd 6 = tkd t tl p) (hp : p ≤ tl) (hs : skp t tl p = p) : CT σ rd kn vl t tl p pr e := by
  obtain ⟨B0, B1, B2, B3, B4, B5⟩ := B
  exact ⟨B0, h7, h8, h6, B1, B2, B3, B4, hp, hs, B5⟩
theorem CB.set {σ σ' : AH} {rd kn vl tl j : Nat} {x : Int32} {pr : List Nat} {e : Option Nat} (B : CB σ rd kn vl tl pr e) (n1 : kn ≠ rd) (n2 : vl ≠ rd) (hj : j = 6 ∨ j = 7 ∨ j = 8) (es : σ' = setI σ rd j x) : CB σ' rd kn vl tl pr e := by
  obtain ⟨B0, B1, B2, B3, B4, B5⟩ := B
  unfold CB
  rw [es, gi_setI_s, gi_setI_n _ _ _ n1, gi_setI_n _ _ _ n2, up_ne _ _ (by omega), up_ne _ _ (by omega), up_ne _ _ (by omega)]
  exact ⟨B0, B1, B2, B3, B4, B5⟩
theorem advance_R {Γ : Gm} {d : Nat} {σ : AH} {rd tx fm kn vl tl q : Nat} {t : Nat → Int32} {ok : Nat → Bool} {pr : List Nat} {e : Option Nat} (C : CRs σ rd tx fm kn vl t tl ok) (B : CB σ rd kn vl tl pr e) (h8 : gi σ rd 8 = nI q) (hq : q ≤ tl) (hd : 2 ≤ d) : RV Γ d MX6_advance [.ref rd] σ (fun σ' => Chg (cI rd kn vl) nJ σ σ' ∧ CT σ' rd kn vl t tl (skp t tl q) pr e) := by
  have n1 : kn ≠ rd := hs_ne C.2.2.2.2.2.1 C.1 (show (22 : Nat) ≠ 5 by decide)
  have n2 : vl ≠ rd := hs_ne C.2.2.2.2.2.2.1 C.1 (show (22 : Nat) ≠ 5 by decide)
  have tl2 : tl ≤ 200 := C.2.2.2.2.2.2.2.2.2.2.1
  have s1 : skp t tl q ≤ tl := scn_le hq
  have s2 : skp t tl (skp t tl q) = skp t tl q := scn_idem hq
  generalize hsq : skp t tl q = s at s1 s2 ⊢
  have chg1 : ∀ {τ τ' : AH} {j : Nat} {x : Int32}, Chg (cI rd kn vl) nJ σ τ → τ' = setI τ rd j x → Chg (cI rd kn vl) nJ σ τ' := fun h1 h2 => by
    rw [h2]; exact h1.trans (Chg.rowI _ _ (Or.inl rfl))
  have fin : ∀ τ, Chg (cI rd kn vl) nJ σ τ → CB τ rd kn vl tl pr e → gi τ rd 7 = nI s → gi τ rd 8 = nI (tnd t tl s) → gi τ rd 6 = tkd t tl s → ((Sum.inl none : Oc) = .inl none ∧ Chg (cI rd kn vl) nJ σ τ ∧ CT τ rd kn vl t tl s pr e) := fun τ a b c d f => ⟨rfl, a, b.cd c d f s1 s2⟩
  -- the rest of a word
  have L103 : ∀ m j τ, j + m = tl → Chg (cI rd kn vl) nJ σ τ → CB τ rd kn vl tl pr e → gi τ rd 7 = nI s → gi τ rd 6 = tkd t tl s → gi τ rd 8 = nI j → scn isLb t tl j = tnd t tl s → EV Γ MX6_advance d 103 [some (.ref rd), none] [] τ (fun o σ' => o = .inl none ∧ Chg (cI rd kn vl) nJ σ σ' ∧ CT σ' rd kn vl t tl s pr e) := by
    intro m
    induction m with
    | zero =>
      intro j τ hj a b c f g hh
      refine gX6_advance_103 ⟨(C.chg a).1, fun _ => fin τ a b c (by rw [g, ← hh, scn_end (by omega)]) f, fun z => absurd (by rw [b.1, g]; exact nI_le (by omega) (by omega)) z⟩
    | succ m ih =>
      intro j τ hj a b c f g hh
      refine gX6_advance_103 ⟨(C.chg a).1, fun z => absurd (by rw [b.1, g] at z; exact (nI_leI (by omega) (by omega)).mp z) (by omega), fun _ => ?_⟩
      rw [g]
      refine CI.of (d2 := 0) (at_R (C.chg a) b.1 (by omega)) (by omega) (fun r σ1 hw hp => ?_)
      obtain ⟨rfl, rfl⟩ := hp
      refine CI.of (d2 := 0) isL_R (by omega) (fun r σ1 hw hp => ?_)
      obtain ⟨rfl, rfl⟩ := hp
      refine ⟨fun z => fin _ a b c ?_ f, fun z => ⟨(C.chg a).1, fun σ9 e9 => ?_⟩⟩
      · rw [g, ← hh, scn_no ((b2i_0 _).mp z)]
      · have z1 := (b2i_ne0 _).mp z
        rw [g, nI_1] at e9
        refine ih (j + 1) σ9 (by omega) (chg1 a e9) (b.set n1 n2 (Or.inr (Or.inr rfl)) e9) (by rw [e9, gi_setI_s, up_ne _ _ (by decide)]; exact c) (by rw [e9, gi_setI_s, up_ne _ _ (by decide)]; exact f) (by rw [e9, gi_setI_s, up_same]) ?_
        rw [← hh]; exact (scn_yes (by omega) z1).symm
  have L154 : ∀ m j τ, j + m = tl → Chg (cI rd kn vl) nJ σ τ → CB τ rd kn vl tl pr e → gi τ rd 7 = nI s → gi τ rd 6 = tkd t tl s → gi τ rd 8 = nI j → scn isDb t tl j = tnd t tl s → EV Γ MX6_advance d 154 [some (.ref rd), none] [] τ (fun o σ' => o = .inl none ∧ Chg (cI rd kn vl) nJ σ σ' ∧ CT σ' rd kn vl t tl s pr e) := by
    intro m
    induction m with
    | zero =>
      intro j τ hj a b c f g hh
      refine gX6_advance_154 ⟨(C.chg a).1, fun _ => fin τ a b c (by rw [g, ← hh, scn_end (by omega)]) f, fun z => absurd (by rw [b.1, g]; exact nI_le (by omega) (by omega)) z⟩
    | succ m ih =>
      intro j τ hj a b c f g hh
      refine gX6_advance_154 ⟨(C.chg a).1, fun z => absurd (by rw [b.1, g] at z; exact (nI_leI (by omega) (by omega)).mp z) (by omega), fun _ => ?_⟩
      rw [g]
      refine CI.of (d2 := 0) (at_R (C.chg a) b.1 (by omega)) (by omega) (fun r σ1 hw hp => ?_)
      obtain ⟨rfl, rfl⟩ := hp
      refine CI.of (d2 := 0) isD_R (by omega) (fun r σ1 hw hp => ?_)
      obtain ⟨rfl, rfl⟩ := hp
      refine ⟨fun z => fin _ a b c ?_ f, fun z => ⟨(C.chg a).1, fun σ9 e9 => ?_⟩⟩
      · rw [g, ← hh, scn_no ((b2i_0 _).mp z)]
      · have z1 := (b2i_ne0 _).mp z
        rw [g, nI_1] at e9
        refine ih (j + 1) σ9 (by omega) (chg1 a e9) (b.set n1 n2 (Or.inr (Or.inr rfl)) e9) (by rw [e9, gi_setI_s, up_ne _ _ (by decide)]; exact c) (by rw [e9, gi_setI_s, up_ne _ _ (by decide)]; exact f) (by rw [e9, gi_setI_s, up_same]) ?_
        rw [← hh]; exact (scn_yes (by omega) z1).symm
  have L45 : ∀ τ, Chg (cI rd kn vl) nJ σ τ → CB τ rd kn vl tl pr e → gi τ rd 7 = nI s → EV Γ MX6_advance d 45 [some (.ref rd), none] [] τ (fun o σ' => o = .inl none ∧ Chg (cI rd kn vl) nJ σ σ' ∧ CT σ' rd kn vl t tl s pr e) := by
    intro τ a b c
    refine gX6_advance_45 ⟨(C.chg a).1, fun σ2 e2 => ?_⟩
    rw [c] at e2
    have a2 := chg1 a e2
    have b2 := b.set n1 n2 (Or.inr (Or.inr rfl)) e2
    have c2 : gi σ2 rd 7 = nI s := by rw [e2, gi_setI_s, up_ne _ _ (by decide)]; exact c
    have d2 : gi σ2 rd 8 = nI s := by rw [e2, gi_setI_s, up_same]
    refine ⟨fun z => ?_, fun z σ37 e37 => ?_⟩
    · have lt : s < tl := by rw [c2, b2.1] at z; exact (nI_ltI (by omega) (by omega)).mp z
      rw [c2]
      refine CI.of (d2 := 0) (at_R (C.chg a2) b2.1 lt) (by omega) (fun r σ6 hw hp => ?_)
      obtain ⟨rfl, rfl⟩ := hp
      refine ⟨(C.chg a2).1, fun σ9 e9 => ?_⟩
      rw [d2, nI_1] at e9
      have a9 := chg1 a2 e9
      have b9 := b2.set n1 n2 (Or.inr (Or.inr rfl)) e9
      have c9 : gi σ9 rd 7 = nI s := by rw [e9, gi_setI_s, up_ne _ _ (by decide)]; exact c2
      have d9 : gi σ9 rd 8 = nI (s + 1) := by rw [e9, gi_setI_s, up_same]
      refine CI.of (d2 := 0) isL_R (by omega) (fun r σ12 hw hp => ?_)
      obtain ⟨rfl, rfl⟩ := hp
      refine ⟨fun z1 => ?_, fun z1 => ⟨(C.chg a9).1, fun σ34 e34 => ?_⟩⟩
      · have y1 := (b2i_0 _).mp z1
        refine CI.of (d2 := 0) isD_R (by omega) (fun r σ15 hw hp => ?_)
        obtain ⟨rfl, rfl⟩ := hp
        refine ⟨fun z2 => ?_, fun z2 => ⟨(C.chg a9).1, fun σ30 e30 => ?_⟩⟩
        · have y2 := (b2i_0 _).mp z2
          have et : tnd t tl s = s + 1 := by
            unfold tnd
            rw [if_neg (by omega), if_neg (by rw [y1]; decide), if_neg (by rw [y2]; decide)]
          refine CI.of (d2 := 1) (isSy_R (by omega)) (by omega) (fun r σ18 hw hp => ?_)
          obtain ⟨rfl, rfl⟩ := hp
          refine ⟨fun z3 => ⟨(C.chg a9).1, fun σ22 e22 => ?_⟩, fun z3 => ⟨(C.chg a9).1, fun σ26 e26 => ?_⟩⟩
          · refine fin _ (chg1 a9 e22) (b9.set n1 n2 (Or.inl rfl) e22) (by rw [e22, gi_setI_s, up_ne _ _ (by decide)]; exact c9) (by rw [e22, gi_setI_s, up_ne _ _ (by decide), et]; exact d9) ?_
            rw [e22, gi_setI_s, up_same, tkd_in lt, if_neg (by rw [y1]; decide), if_neg (by rw [y2]; decide), if_neg (by rw [(b2i_0 _).mp z3]; decide)]
          · refine fin _ (chg1 a9 e26) (b9.set n1 n2 (Or.inl rfl) e26) (by rw [e26, gi_setI_s, up_ne _ _ (by decide)]; exact c9) (by rw [e26, gi_setI_s, up_ne _ _ (by decide), et]; exact d9) ?_
            rw [e26, gi_setI_s, up_same, tkd_in lt, if_neg (by rw [y1]; decide), if_neg (by rw [y2]; decide), if_pos ((b2i_ne0 _).mp z3)]
        · have y2 := (b2i_ne0 _).mp z2
          refine L154 (tl - (s + 1)) (s + 1) σ30 (by omega) (chg1 a9 e30) (b9.set n1 n2 (Or.inl rfl) e30) (by rw [e30, gi_setI_s, up_ne _ _ (by decide)]; exact c9) ?_ (by rw [e30, gi_setI_s, up_ne _ _ (by decide)]; exact d9) ?_
          · rw [e30, gi_setI_s, up_same]; exact (tkd_13.mpr ⟨lt, y2⟩).symm
          · unfold tnd
            rw [if_neg (by omega), if_neg (by rw [y1]; decide), if_pos y2]
      · have y1 := (b2i_ne0 _).mp z1
        refine L103 (tl - (s + 1)) (s + 1) σ34 (by omega) (chg1 a9 e34) (b9.set n1 n2 (Or.inl rfl) e34) (by rw [e34, gi_setI_s, up_ne _ _ (by decide)]; exact c9) ?_ (by rw [e34, gi_setI_s, up_ne _ _ (by decide)]; exact d9) ?_
        · rw [e34, gi_setI_s, up_same]; exact (tkd_12.mpr ⟨lt, y1⟩).symm
        · unfold tnd
          rw [if_neg (by omega), if_pos y1]
    · have ge : tl ≤ s := by
        rcases Nat.lt_or_ge s tl with w | w
        · rw [c2, b2.1] at z; exact absurd ((nI_ltI (by omega) (by omega)).mpr w) z
        · exact w
      refine fin _ (chg1 a2 e37) (b2.set n1 n2 (Or.inl rfl) e37) (by rw [e37, gi_setI_s, up_ne _ _ (by decide)]; exact c2) ?_ ?_
      · rw [e37, gi_setI_s, up_ne _ _ (by decide), d2]
        unfold tnd; rw [if_pos ge]
      · rw [e37, gi_setI_s, up_same]; exact (tkd_end ge).symm
  have L8 : ∀ m i τ, i + m = tl → skp t tl i = s → Chg (cI rd kn vl) nJ σ τ → CB τ rd kn vl tl pr e → gi τ rd 7 = nI i → EV Γ MX6_advance d 8 [some (.ref rd), none] [] τ (fun o σ' => o = .inl none ∧ Chg (cI rd kn vl) nJ σ σ' ∧ CT σ' rd kn vl t tl s pr e) := by
    intro m
    induction m with
    | zero =>
      intro i τ hi hs a b c
      have : i = s := by rw [← hs]; exact (scn_end (by omega)).symm
      refine gX6_advance_8 ⟨(C.chg a).1, fun _ => L45 τ a b (by rw [← this]; exact c), fun z => absurd (by rw [b.1, c]; exact nI_le (by omega) (by omega)) z⟩
    | succ m ih =>
      intro i τ hi hs a b c
      refine gX6_advance_8 ⟨(C.chg a).1, fun z => absurd (by rw [b.1, c] at z; exact (nI_leI (by omega) (by omega)).mp z) (by omega), fun _ => ?_⟩
      rw [c]
      refine CI.of (d2 := 0) (at_R (C.chg a) b.1 (by omega)) (by omega) (fun r σ3 hw hp => ?_)
      obtain ⟨rfl, rfl⟩ := hp
      refine ⟨fun z => ?_, fun z => ⟨(C.chg a).1, fun σ7 e7 => ?_⟩⟩
      · have : i = s := by rw [← hs]; exact (scn_no (decide_eq_false z)).symm
        exact L45 _ a b (by rw [← this]; exact c)
      · rw [c, nI_1] at e7
        refine ih (i + 1) σ7 (by omega) ?_ (chg1 a e7) (b.set n1 n2 (Or.inr (Or.inl rfl)) e7) (by rw [e7, gi_setI_s, up_same])
        rw [← hs]; exact (scn_yes (by omega) (decide_eq_true z)).symm
  refine eX6_advance ⟨C.1, fun σ2 e2 => ?_⟩
  rw [h8] at e2
  exact L8 (tl - q) q σ2 (by omega) hsq (by rw [e2]; exact Chg.rowI σ _ (Or.inl rfl)) (B.set n1 n2 (Or.inr (Or.inl rfl)) e2) (by rw [e2, gi_setI_s, up_same])
/-- from a token to the next -/
theorem adv_R {Γ : Gm} {d : Nat} {σ : AH} {rd tx fm kn vl tl p : Nat} {t : Nat → Int32} {ok : Nat → Bool} {pr : List Nat} {e : Option Nat} (C : CRs σ rd tx fm kn vl t tl ok) (D : CT σ rd kn vl t tl p pr e) (hd : 2 ≤ d) : RV Γ d MX6_advance [.ref rd] σ (fun σ' => Chg (cI rd kn vl) nJ σ σ' ∧ CT σ' rd kn vl t tl (nxt t tl p) pr e) :=
  advance_R C D.cb D.2.2.1 (tnd_le D.2.2.2.2.2.2.2.2.1) hd
