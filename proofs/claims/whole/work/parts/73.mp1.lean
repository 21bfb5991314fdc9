/-! ROWS of the model's parser: the state, and the small methods. -/
/-- a byte as an int -/
def by8 (x : Int32) : Prop := ∃ m, m < 256 ∧ x = (nI m).toInt8.toInt32
theorem by8_all : ∀ m, m < 256 → (isLb ((nI m).toInt8.toInt32 &&& 255) = isLb ((nI m).toInt8.toInt32)) ∧ (isDb ((nI m).toInt8.toInt32 &&& 255) = isDb ((nI m).toInt8.toInt32)) ∧ (isSyb ((nI m).toInt8.toInt32 &&& 255) = isSyb ((nI m).toInt8.toInt32)) ∧ ((isSyb ((nI m).toInt8.toInt32) || (isLb ((nI m).toInt8.toInt32) || isDb ((nI m).toInt8.toInt32))) = true → (nI m).toInt8.toInt32 &&& 255 = (nI m).toInt8.toInt32) ∧ ¬ ((nI m).toInt8.toInt32 &&& 255) < 0 := by decide +kernel
def lkv (t : Nat → Int32) (tl s : Nat) : Int32 := if s < tl then t s &&& 255 else -1
theorem lkv_sym {t : Nat → Int32} {tl s : Nat} {y : Int32} (hb : ∀ i, i < tl → by8 (t i)) (hy : isSyb y = true) : lkv t tl s = y ↔ tkd t tl s = y := by
  unfold lkv
  constructor
  · intro h
    split at h
    · rename_i lt
      obtain ⟨m, hm, e⟩ := hb s lt
      obtain ⟨-, -, b3, b4, -⟩ := by8_all m hm
      rw [← e] at b3 b4
      have : isSyb (t s) = true := by rw [← b3, h]; exact hy
      rw [tkd_syb lt this, ← b4 (by rw [this]; rfl)]; exact h
    · rw [← h] at hy; exact absurd hy (by decide)
  · intro h
    obtain ⟨lt, e2⟩ := tkd_is hy h
    obtain ⟨m, hm, e⟩ := hb s lt
    obtain ⟨-, -, -, b4, -⟩ := by8_all m hm
    rw [← e] at b4
    rw [if_pos lt, b4 (by rw [e2, hy]; rfl)]; exact e2
theorem lkv_L {t : Nat → Int32} {tl s : Nat} (hb : ∀ i, i < tl → by8 (t i)) : isLb (lkv t tl s) = true ↔ tkd t tl s = 12 := by
  rw [tkd_12]
  unfold lkv
  split
  · rename_i lt
    obtain ⟨m, hm, e⟩ := hb s lt
    have b1 := (by8_all m hm).1
    rw [← e] at b1
    rw [b1]
    exact ⟨fun h => ⟨lt, h⟩, fun h => h.2⟩
  · rename_i lt
    exact ⟨fun h => absurd h (by decide), fun h => absurd h.1 lt⟩
theorem lkv_D {t : Nat → Int32} {tl s : Nat} (hb : ∀ i, i < tl → by8 (t i)) : isDb (lkv t tl s) = true ↔ tkd t tl s = 13 := by
  rw [tkd_13]
  unfold lkv
  split
  · rename_i lt
    obtain ⟨m, hm, e⟩ := hb s lt
    have b1 := (by8_all m hm).2.1
    rw [← e] at b1
    rw [b1]
    exact ⟨fun h => ⟨lt, h⟩, fun h => h.2⟩
  · rename_i lt
    exact ⟨fun h => absurd h (by decide), fun h => absurd h.1 lt⟩
theorem lkv_id {t : Nat → Int32} {tl s : Nat} (hb : ∀ i, i < tl → by8 (t i)) (h : s < tl) (hd : isDb (t s) = true) : lkv t tl s = t s := by
  obtain ⟨m, hm, e⟩ := hb s h
  obtain ⟨-, -, -, b4, -⟩ := by8_all m hm
  rw [← e] at b4
  unfold lkv
  rw [if_pos h, b4 (by rw [hd, Bool.or_true, Bool.or_true])]
theorem lkv_neg {t : Nat → Int32} {tl s : Nat} (hb : ∀ i, i < tl → by8 (t i)) : lkv t tl s < 0 ↔ tl ≤ s := by
  unfold lkv
  split
  · rename_i lt
    obtain ⟨m, hm, e⟩ := hb s lt
    obtain ⟨-, -, -, -, b5⟩ := by8_all m hm
    rw [← e] at b5
    exact ⟨fun h => absurd h b5, fun h => by omega⟩
  · rename_i lt
    exact ⟨fun _ => by omega, fun _ => by decide⟩
def MRs (σ : AH) (mo tx pg ir : Nat) (t : Nat → Int32) (tl n : Nat) (rel : Nat → Bool) : Prop :=
  hs σ mo = some (7, 27) ∧ gr σ mo 1 = some tx ∧ gr σ mo 8 = some ir ∧ gr σ mo 22 = some pg ∧ hs σ tx = some (20, 200) ∧ hs σ ir = some (21, 200) ∧ hs σ pg = some (22, 200) ∧ tl ≤ 200 ∧ n ≤ 200 ∧ gi σ mo 2 = nI tl ∧ gi σ mo 6 = nI n ∧ (∀ i, i < tl → gi σ tx i = t i) ∧ (∀ i, i < n → gi σ ir i = b2i (rel i)) ∧ ∀ i, i < tl → by8 (t i)
def CM (mo pg : Nat) (σ σ' : AH) : Prop := Chg (fun a => a = mo ∨ a = pg) nJ σ σ' ∧ ∀ i, i < 23 → gi σ' mo i = gi σ mo i
theorem CM.refl (mo pg : Nat) (σ : AH) : CM mo pg σ σ := ⟨Chg.refl _ _ _, fun _ _ => rfl⟩
theorem CM.trans {mo pg : Nat} {σ σ1 σ2 : AH} (h : CM mo pg σ σ1) (k : CM mo pg σ1 σ2) : CM mo pg σ σ2 := ⟨h.1.trans k.1, fun i hi => (k.2 i hi).trans (h.2 i hi)⟩
theorem CM.set {mo pg : Nat} (σ : AH) {j : Nat} (x : Int32) (hj : 23 ≤ j) : CM mo pg σ (setI σ mo j x) := ⟨Chg.rowI σ _ (Or.inl rfl), fun i hi => by rw [gi_setI_s, up_ne _ _ (by omega)]⟩
theorem CM.pgm {mo pg : Nat} (σ : AH) (j : Nat) (x : Int32) (ne : mo ≠ pg) : CM mo pg σ (setI σ pg j x) := ⟨Chg.rowI σ _ (Or.inr rfl), fun i hi => by rw [gi_setI_n _ _ _ ne]⟩
theorem MRs.ne {σ : AH} {mo tx pg ir tl n : Nat} {t : Nat → Int32} {rel : Nat → Bool} (C : MRs σ mo tx pg ir t tl n rel) : mo ≠ pg ∧ pg ≠ mo := ⟨hs_ne C.1 C.2.2.2.2.2.2.1 (show (7 : Nat) ≠ 22 by decide), hs_ne C.2.2.2.2.2.2.1 C.1 (show (22 : Nat) ≠ 7 by decide)⟩
theorem MRs.chg {σ σ' : AH} {mo tx pg ir tl n : Nat} {t : Nat → Int32} {rel : Nat → Bool} (C : MRs σ mo tx pg ir t tl n rel) (h : CM mo pg σ σ') : MRs σ' mo tx pg ir t tl n rel := by
  obtain ⟨C0, C1, C2, C3, C4, C5, C6, C7, C8, C9, C10, C11, C12, C13⟩ := C
  have n1 : tx ≠ mo := hs_ne C4 C0 (show (20 : Nat) ≠ 7 by decide)
  have n2 : tx ≠ pg := hs_ne C4 C6 (show (20 : Nat) ≠ 22 by decide)
  have n3 : ir ≠ mo := hs_ne C5 C0 (show (21 : Nat) ≠ 7 by decide)
  have n4 : ir ≠ pg := hs_ne C5 C6 (show (21 : Nat) ≠ 22 by decide)
  refine ⟨h.1.gh C0, h.1.gg C1, h.1.gg C2, h.1.gg C3, h.1.gh C4, h.1.gh C5, h.1.gh C6, C7, C8, (h.2 2 (by omega)).trans C9, (h.2 6 (by omega)).trans C10, fun i hi => ?_, fun i hi => ?_, C13⟩
  · rw [h.1.gi (fun z => z.elim n1 n2)]; exact C11 i hi
  · rw [h.1.gi (fun z => z.elim n3 n4)]; exact C12 i hi
def MD (σ : AH) (mo pg a : Nat) (pr : List Nat) (o : Nat) : Prop := gi σ mo 24 = nI a ∧ gi σ mo 23 = nI pr.length ∧ gi σ mo 25 = nI o ∧ gi σ mo 26 = -1 ∧ ∀ j s, pr[j]? = some s → gi σ pg j = nI s
def ME (σ : AH) (mo a k e : Nat) : Prop := gi σ mo 24 = nI a ∧ gi σ mo 23 = nI k ∧ gi σ mo 26 = nI e
theorem setI_setI (σ : AH) (a i : Nat) (x y : Int32) : setI (setI σ a i x) a i y = setI σ a i y := by
  apply AH_ext <;> try rfl
  funext b
  by_cases c : b = a
  · subst c
    rw [gi_setI_s, gi_setI_s, gi_setI_s]
    funext j
    unfold up
    split <;> rfl
  · rw [gi_setI_n _ _ _ c, gi_setI_n _ _ _ c, gi_setI_n _ _ _ c]
theorem setI_self {σ : AH} {a i : Nat} {x : Int32} (h : gi σ a i = x) : setI σ a i x = σ := by
  apply AH_ext <;> try rfl
  funext b
  by_cases c : b = a
  · subst c
    rw [gi_setI_s]
    funext j
    unfold up
    split
    · rename_i q; rw [q, h]
    · rfl
  · rw [gi_setI_n _ _ _ c]
section MP
variable {Γ : Gm} {d : Nat} {σ : AH} {mo tx pg ir tl n a : Nat} {t : Nat → Int32} {rel : Nat → Bool}
theorem mlook_R (C : MRs σ mo tx pg ir t tl n rel) (h24 : gi σ mo 24 = nI a) (ha : a < 2 ^ 30) : RI Γ d MX9_look [.ref mo] σ (fun r σ' => r = lkv t tl (skp t tl a) ∧ σ' = setI σ mo 24 (nI (skp t tl a))) := by
  have tl2 : tl ≤ 200 := C.2.2.2.2.2.2.2.1
  have fin : ∀ i, i < 2 ^ 30 → skp t tl a = i → EV Γ MX9_look d 38 [some (.ref mo)] [] (setI σ mo 24 (nI i)) (fun oc σ' => ∃ r : Int32, oc = .inl (some (.int r)) ∧ r = lkv t tl (skp t tl a) ∧ σ' = setI σ mo 24 (nI (skp t tl a))) := by
    intro i hi e
    have Ci := C.chg (CM.set (pg := pg) σ (nI i) (show 23 ≤ 24 by omega))
    obtain ⟨C0, C1, C2, C3, C4, C5, C6, C7, C8, C9, C10, C11, C12, C13⟩ := Ci
    have g24 : gi (setI σ mo 24 (nI i)) mo 24 = nI i := by rw [gi_setI_s, up_same]
    refine gX9_look_38 ⟨C0, fun z => ⟨_, rfl, ?_, by rw [e]⟩, fun z => ⟨tx, C1, 200, C4, i, ?_, _, rfl, ?_, by rw [e]⟩⟩
    · rw [C9, g24] at z
      have := (nI_leI (a := tl) (b := i) (by omega) (by omega)).mp z
      rw [e]; unfold lkv; rw [if_neg (by omega)]
    all_goals
      rw [C9, g24] at z
      have lt : i < tl := by
        rcases Nat.lt_or_ge i tl with c | c
        · exact c
        · exact absurd ((nI_leI (a := tl) (b := i) (by omega) (by omega)).mpr c) z
    · rw [g24]; exact IXn (by omega) (by omega)
    · rw [e, C11 i lt]; unfold lkv; rw [if_pos lt]
  have L : ∀ m i, i < 2 ^ 30 → tl - i = m → skp t tl i = skp t tl a → EV Γ MX9_look d 0 [some (.ref mo)] [] (setI σ mo 24 (nI i)) (fun oc σ' => ∃ r : Int32, oc = .inl (some (.int r)) ∧ r = lkv t tl (skp t tl a) ∧ σ' = setI σ mo 24 (nI (skp t tl a))) := by
    intro m
    induction m with
    | zero =>
      intro i hi h1 h2
      have Ci := C.chg (CM.set (pg := pg) σ (nI i) (show 23 ≤ 24 by omega))
      have g24 : gi (setI σ mo 24 (nI i)) mo 24 = nI i := by rw [gi_setI_s, up_same]
      refine gX9_look_0 ⟨Ci.1, fun _ => fin i hi (by rw [← h2]; exact scn_end (by omega)), fun z => absurd (by rw [Ci.2.2.2.2.2.2.2.2.2.1, g24]; exact nI_le (by omega) (by omega)) z⟩
    | succ m ih =>
      intro i hi h1 h2
      have Ci := C.chg (CM.set (pg := pg) σ (nI i) (show 23 ≤ 24 by omega))
      obtain ⟨C0, C1, C2, C3, C4, C5, C6, C7, C8, C9, C10, C11, C12, C13⟩ := Ci
      have g24 : gi (setI σ mo 24 (nI i)) mo 24 = nI i := by rw [gi_setI_s, up_same]
      refine gX9_look_0 ⟨C0, fun z => absurd (by rw [C9, g24] at z; exact (nI_leI (a := tl) (b := i) (by omega) (by omega)).mp z) (by omega), fun _ => ⟨tx, C1, 200, C4, i, by rw [g24]; exact IXn (by omega) (by omega), fun z => ?_, fun z τ ht => ?_⟩⟩
      · rw [C11 i (by omega)] at z
        exact fin i hi (by rw [← h2]; exact scn_no (decide_eq_false z))
      · rw [C11 i (by omega)] at z
        rw [g24, nI_1, setI_setI] at ht
        rw [ht]
        exact ih (i + 1) (by omega) (by omega) (by rw [← h2]; exact (scn_yes (by omega) (decide_eq_true z)).symm)
  have := L _ a ha rfl rfl
  rw [setI_self h24] at this
  exact EV.enter [some (.ref mo)] rfl (by decide +kernel) (Nat.le_of_ble_eq_true rfl) rfl this
theorem misL_R {x : Int32} : RI Γ d MX9_isLetter [.int x] σ (fun r σ' => σ' = σ ∧ r = b2i (isLb x)) := by
  refine eX9_isLetter ⟨fun z => ⟨_, rfl, rfl, ?_⟩, fun z => ⟨fun y => ⟨_, rfl, rfl, ?_⟩, fun y => ⟨_, rfl, rfl, ?_⟩⟩⟩ <;> unfold isLb
  · rw [decide_eq_true z]; rfl
  · rw [decide_eq_false z, decide_eq_true y]; rfl
  · rw [decide_eq_false z, decide_eq_false y]; rfl
theorem misD_R {x : Int32} : RI Γ d MX9_isDigit [.int x] σ (fun r σ' => σ' = σ ∧ r = b2i (isDb x)) := by
  refine eX9_isDigit ⟨fun z => ⟨_, rfl, rfl, ?_⟩, fun z => ⟨fun y => ⟨_, rfl, rfl, ?_⟩, fun y => ⟨_, rfl, rfl, ?_⟩⟩⟩ <;> unfold isDb
  · rw [decide_eq_true z]; rfl
  · rw [decide_eq_false z, decide_eq_true y]; rfl
  · rw [decide_eq_false z, decide_eq_false y]; rfl
theorem wrong_R {v : Int32} (h0 : hs σ mo = some (7, 27)) (h : gi σ mo 26 = -1) : RV Γ d MX9_wrong [.ref mo, .int v] σ (fun σ' => σ' = setI σ mo 26 v) :=
  eX9_wrong ⟨h0, fun z => absurd z (by rw [h]; decide), fun _ τ ht => ⟨rfl, ht⟩⟩
theorem madd_R {k : Nat} {v : Int32} (C : MRs σ mo tx pg ir t tl n rel) (h : gi σ mo 23 = nI k) (hk : k < 200) : RV Γ d MX9_add [.ref mo, .int v] σ (fun σ' => σ' = setI (setI σ pg k v) mo 23 (nI (k + 1))) := by
  obtain ⟨ne, -⟩ := C.ne
  refine eX9_add ⟨C.1, pg, C.2.2.2.1, 200, C.2.2.2.2.2.2.1, k, by rw [h]; exact IXn hk (by omega), fun σ8 e8 σ13 e13 => ⟨rfl, ?_⟩⟩
  have : gi σ8 mo 23 = nI k := by rw [e8, gi_setI_n _ _ _ ne]; exact h
  rw [e13, this, nI_1, e8]
theorem digits_R (C : MRs σ mo tx pg ir t tl n rel) (h24 : gi σ mo 24 = nI a) (ha : a ≤ tl) (hd : 1 ≤ d) : RI Γ d MX9_digits [.ref mo] σ (fun r σ' => r = nI (scn isDb t tl a - a) ∧ σ' = setI σ mo 24 (nI (scn isDb t tl a))) := by
  have tl2 : tl ≤ 200 := C.2.2.2.2.2.2.2.1
  have ge := scn_ge isDb t tl a
  have L : ∀ m i, tl - i = m → i ≤ tl → a ≤ i → scn isDb t tl i = scn isDb t tl a → EV Γ MX9_digits d 5 [some (.ref mo), some (.int (nI a))] [] (setI σ mo 24 (nI i)) (fun oc σ' => ∃ r : Int32, oc = .inl (some (.int r)) ∧ r = nI (scn isDb t tl a - a) ∧ σ' = setI σ mo 24 (nI (scn isDb t tl a))) := by
    intro m
    induction m with
    | zero =>
      intro i h1 h2 h3 h4
      have Ci := C.chg (CM.set (pg := pg) σ (nI i) (show 23 ≤ 24 by omega))
      have g24 : gi (setI σ mo 24 (nI i)) mo 24 = nI i := by rw [gi_setI_s, up_same]
      have e : scn isDb t tl a = i := by rw [← h4]; exact scn_end (by omega)
      refine gX9_digits_5 ⟨Ci.1, fun _ => ⟨_, rfl, by rw [g24, e]; exact pk_sub h3, by rw [e]⟩, fun z => absurd (by rw [Ci.2.2.2.2.2.2.2.2.2.1, g24]; exact nI_le (by omega) (by omega)) z⟩
    | succ m ih =>
      intro i h1 h2 h3 h4
      have Ci := C.chg (CM.set (pg := pg) σ (nI i) (show 23 ≤ 24 by omega))
      obtain ⟨C0, C1, C2, C3, C4, C5, C6, C7, C8, C9, C10, C11, C12, C13⟩ := Ci
      have g24 : gi (setI σ mo 24 (nI i)) mo 24 = nI i := by rw [gi_setI_s, up_same]
      refine gX9_digits_5 ⟨C0, fun z => absurd (by rw [C9, g24] at z; exact (nI_leI (a := tl) (b := i) (by omega) (by omega)).mp z) (by omega), fun _ => ⟨tx, C1, 200, C4, i, by rw [g24]; exact IXn (by omega) (by omega), ?_⟩⟩
      rw [C11 i (by omega)]
      refine CI.of (d2 := 0) misD_R (by omega) (fun r σ9 hw hp => ?_)
      obtain ⟨rfl, rfl⟩ := hp
      refine ⟨fun z => ⟨C0, _, rfl, ?_, ?_⟩, fun z => ⟨C0, fun τ ht => ?_⟩⟩
      · have e : scn isDb t tl a = i := by rw [← h4]; exact scn_no ((b2i_0 _).mp z)
        rw [g24, e]; exact pk_sub h3
      · have e : scn isDb t tl a = i := by rw [← h4]; exact scn_no ((b2i_0 _).mp z)
        rw [e]
      · rw [g24, nI_1, setI_setI] at ht
        rw [ht]
        exact ih (i + 1) (by omega) (by omega) (by omega) (by rw [← h4]; exact (scn_yes (by omega) ((b2i_ne0 _).mp z)).symm)
  refine eX9_digits ⟨C.1, ?_⟩
  have := L _ a rfl ha (Nat.le_refl _) rfl
  rw [setI_self h24] at this
  rw [h24]; exact this
theorem misW_R {p q : Nat} {x y z : Int32} (C : MRs σ mo tx pg ir t tl n rel) (h24 : gi σ mo 24 = nI q) (hpq : p ≤ q) (hq : q ≤ tl) : RI Γ d MX9_isWord [.ref mo, .int (nI p), .int x, .int y, .int z] σ (fun r σ' => σ' = σ ∧ r = b2i (w3 t p q x y z)) := by
  obtain ⟨C0, C1, C2, C3, C4, C5, C6, C7, C8, C9, C10, C11, C12, C13⟩ := C
  have e8 : gi σ mo 24 - nI p = nI (q - p) := by rw [h24]; exact pk_sub hpq
  refine eX9_isWord ⟨C0, fun w => ⟨_, rfl, rfl, ?_⟩, fun w => ⟨tx, C1, 200, C4, ?_⟩⟩
  · rw [e8] at w
    have : q ≠ p + 3 := fun u => w (by rw [u, show p + 3 - p = 3 by omega]; rfl)
    unfold w3
    rw [decide_eq_false this]; rfl
  · rw [e8] at w
    have hq3 : q = p + 3 := by
      have := (nI_eq (a := q - p) (b := 3) (by omega) (by omega)).mp w
      omega
    refine ⟨p, IXn (by omega) (by omega), fun u => ⟨_, rfl, rfl, ?_⟩, fun u => ⟨p + 1, by rw [nI_1]; exact IXn (by omega) (by omega), fun v => ⟨_, rfl, rfl, ?_⟩, fun v => ⟨p + 2, by rw [show nI p + 2 = nI (p + 2) from nI_add p 2]; exact IXn (by omega) (by omega), fun s => ⟨_, rfl, rfl, ?_⟩, fun s => ⟨_, rfl, rfl, ?_⟩⟩⟩⟩
    · rw [C11 p (by omega)] at u
      unfold w3; rw [decide_eq_true hq3, decide_eq_false u]; rfl
    · rw [C11 p (by omega)] at u
      rw [C11 (p + 1) (by omega)] at v
      unfold w3; rw [decide_eq_true hq3, decide_eq_true u, decide_eq_false v]; rfl
    · rw [C11 p (by omega)] at u
      rw [C11 (p + 1) (by omega)] at v
      rw [C11 (p + 2) (by omega)] at s
      unfold w3; rw [decide_eq_true hq3, decide_eq_true u, decide_eq_true v, decide_eq_false s]; rfl
    · rw [C11 p (by omega)] at u
      rw [C11 (p + 1) (by omega)] at v
      rw [C11 (p + 2) (by omega)] at s
      unfold w3; rw [decide_eq_true hq3, decide_eq_true u, decide_eq_true v, decide_eq_true s]; rfl
end MP
