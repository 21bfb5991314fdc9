/-! PURE ROWS: the text of an expression: scanning, tokens, words, numbers. -/
def scan (f : Int32 → Bool) (t : Nat → Int32) : Nat → Nat → Nat
  | 0, p => p
  | n + 1, p => if f (t p) = true then scan f t n (p + 1) else p
def scn (f : Int32 → Bool) (t : Nat → Int32) (tl p : Nat) : Nat := scan f t (tl - p) p
theorem scn_end {f : Int32 → Bool} {t : Nat → Int32} {tl p : Nat} (h : tl ≤ p) : scn f t tl p = p := by
  unfold scn; rw [show tl - p = 0 by omega]; rfl
theorem scn_yes {f : Int32 → Bool} {t : Nat → Int32} {tl p : Nat} (h : p < tl) (hf : f (t p) = true) : scn f t tl p = scn f t tl (p + 1) := by
  unfold scn; rw [show tl - p = (tl - (p + 1)) + 1 by omega]; exact if_pos hf
theorem scn_no {f : Int32 → Bool} {t : Nat → Int32} {tl p : Nat} (hf : f (t p) = false) : scn f t tl p = p := by
  unfold scn
  cases tl - p with
  | zero => rfl
  | succ n => exact if_neg (by rw [hf]; decide)
theorem scan_ge (f : Int32 → Bool) (t : Nat → Int32) : ∀ n p, p ≤ scan f t n p ∧ scan f t n p ≤ p + n
  | 0, p => ⟨Nat.le_refl _, Nat.le_refl _⟩
  | n + 1, p => by
    have := scan_ge f t n (p + 1)
    show p ≤ (if f (t p) = true then scan f t n (p + 1) else p) ∧ (if f (t p) = true then scan f t n (p + 1) else p) ≤ p + (n + 1)
    split <;> omega
theorem scn_ge (f : Int32 → Bool) (t : Nat → Int32) (tl p : Nat) : p ≤ scn f t tl p := (scan_ge f t _ p).1
theorem scn_le {f : Int32 → Bool} {t : Nat → Int32} {tl p : Nat} (h : p ≤ tl) : scn f t tl p ≤ tl := by
  have := (scan_ge f t (tl - p) p).2
  unfold scn; omega
theorem scan_in (f : Int32 → Bool) (t : Nat → Int32) : ∀ n p i, p ≤ i → i < scan f t n p → f (t i) = true
  | 0, p, i, h1, h2 => by have : i < p := h2; omega
  | n + 1, p, i, h1, h2 => by
    have h2 : i < (if f (t p) = true then scan f t n (p + 1) else p) := h2
    split at h2
    · rename_i hf
      by_cases c : i = p
      · rw [c]; exact hf
      · exact scan_in f t n (p + 1) i (by omega) h2
    · omega
theorem scn_in {f : Int32 → Bool} {t : Nat → Int32} {tl p i : Nat} (h1 : p ≤ i) (h2 : i < scn f t tl p) : f (t i) = true := scan_in f t _ p i h1 h2
theorem scan_stop (f : Int32 → Bool) (t : Nat → Int32) : ∀ n p, scan f t n p < p + n → f (t (scan f t n p)) = false
  | 0, p, h => by have : p < p + 0 := h; omega
  | n + 1, p, h => by
    have e : scan f t (n + 1) p = if f (t p) = true then scan f t n (p + 1) else p := rfl
    rw [e] at h ⊢
    split at h
    · rename_i hf
      rw [if_pos hf]
      exact scan_stop f t n (p + 1) (by omega)
    · rename_i hf
      rw [if_neg hf]
      cases q : f (t p)
      · rfl
      · exact absurd q hf
theorem scn_stop {f : Int32 → Bool} {t : Nat → Int32} {tl p : Nat} (h : p ≤ tl) (h2 : scn f t tl p < tl) : f (t (scn f t tl p)) = false := scan_stop f t _ p (by unfold scn at h2; omega)
theorem scn_idem {f : Int32 → Bool} {t : Nat → Int32} {tl p : Nat} (h : p ≤ tl) : scn f t tl (scn f t tl p) = scn f t tl p := by
  rcases Nat.lt_or_ge (scn f t tl p) tl with c | c
  · exact scn_no (scn_stop h c)
  · exact scn_end c
def isLb (x : Int32) : Bool := !decide (x < 97) && !decide (122 < x)
def isDb (x : Int32) : Bool := !decide (x < 48) && !decide (57 < x)
def isSP (x : Int32) : Bool := decide (x = 32)
def isSumb (x : Int32) : Bool := decide (x = 43) || (decide (x = 45) || decide (x = 38))
def isPrb (x : Int32) : Bool := decide (x = 42) || (decide (x = 47) || decide (x = 37))
def isSyb (x : Int32) : Bool := isSumb x || (isPrb x || (decide (x = 40) || (decide (x = 41) || decide (x = 35))))
/-- the place of the next byte that is no space -/
def skp (t : Nat → Int32) (tl p : Nat) : Nat := scn isSP t tl p
/-- the kind of the token that begins at s -/
def tkd (t : Nat → Int32) (tl s : Nat) : Int32 := if tl ≤ s then 11 else if isLb (t s) = true then 12 else if isDb (t s) = true then 13 else if isSyb (t s) = true then t s else 14
/-- .. and its end -/
def tnd (t : Nat → Int32) (tl s : Nat) : Nat := if tl ≤ s then s else if isLb (t s) = true then scn isLb t tl (s + 1) else if isDb (t s) = true then scn isDb t tl (s + 1) else s + 1
theorem tnd_gt {t : Nat → Int32} {tl s : Nat} (h : s < tl) : s < tnd t tl s ∧ tnd t tl s ≤ tl := by
  unfold tnd
  rw [if_neg (by omega)]
  have a := scn_ge isLb t tl (s + 1)
  have b := scn_ge isDb t tl (s + 1)
  have c := scn_le (f := isLb) (t := t) (tl := tl) (p := s + 1) (by omega)
  have d := scn_le (f := isDb) (t := t) (tl := tl) (p := s + 1) (by omega)
  split
  · omega
  · split <;> omega
theorem tnd_le {t : Nat → Int32} {tl s : Nat} (h : s ≤ tl) : tnd t tl s ≤ tl := by
  rcases Nat.lt_or_ge s tl with c | c
  · exact (tnd_gt c).2
  · unfold tnd; rw [if_pos c]; exact h
/-- the place of the token behind the one at s -/
def nxt (t : Nat → Int32) (tl s : Nat) : Nat := skp t tl (tnd t tl s)
theorem nxt_gt {t : Nat → Int32} {tl s : Nat} (h : s < tl) : s < nxt t tl s ∧ nxt t tl s ≤ tl := by
  have := tnd_gt (t := t) h
  have a := scn_ge isSP t tl (tnd t tl s)
  have b := scn_le (f := isSP) (t := t) (tl := tl) (p := tnd t tl s) this.2
  unfold nxt skp
  omega
theorem nxt_le {t : Nat → Int32} {tl s : Nat} (h : s ≤ tl) : nxt t tl s ≤ tl := scn_le (tnd_le h)
theorem skp_nxt {t : Nat → Int32} {tl s : Nat} (h : s ≤ tl) : skp t tl (nxt t tl s) = nxt t tl s := scn_idem (tnd_le h)
theorem tkd_end {t : Nat → Int32} {tl s : Nat} (h : tl ≤ s) : tkd t tl s = 11 := if_pos h
theorem tkd_in {t : Nat → Int32} {tl s : Nat} (h : s < tl) : tkd t tl s = if isLb (t s) = true then 12 else if isDb (t s) = true then 13 else if isSyb (t s) = true then t s else 14 := if_neg (by omega)
/-- what a byte can be -/
theorem syb_cases {x : Int32} (h : isSyb x = true) : x = 43 ∨ x = 45 ∨ x = 38 ∨ x = 42 ∨ x = 47 ∨ x = 37 ∨ x = 40 ∨ x = 41 ∨ x = 35 := by
  unfold isSyb isSumb isPrb at h
  simp only [Bool.or_eq_true, decide_eq_true_iff] at h
  rcases h with (h | h | h) | (h | h | h) | h | h | h <;> (subst h; decide)
theorem lb_iff (x : Int32) : isLb x = true ↔ ¬ x < 97 ∧ ¬ 122 < x := by
  unfold isLb
  rw [Bool.and_eq_true, Bool.not_eq_true', Bool.not_eq_true', decide_eq_false_iff_not, decide_eq_false_iff_not]
theorem db_iff (x : Int32) : isDb x = true ↔ ¬ x < 48 ∧ ¬ 57 < x := by
  unfold isDb
  rw [Bool.and_eq_true, Bool.not_eq_true', Bool.not_eq_true', decide_eq_false_iff_not, decide_eq_false_iff_not]
theorem lb_of {x : Int32} (h : isLb x = true) : ∃ k, k < 26 ∧ x = nI (97 + k) := by
  obtain ⟨a, b⟩ := (lb_iff x).mp h
  have a' : (97 : Int) ≤ x.toInt := by
    rw [Int32.lt_iff_toInt_lt] at a
    have : (97 : Int32).toInt = 97 := by decide
    omega
  have b' : x.toInt ≤ 122 := by
    rw [Int32.lt_iff_toInt_lt] at b
    have : (122 : Int32).toInt = 122 := by decide
    omega
  refine ⟨(x.toInt - 97).toNat, by omega, ?_⟩
  apply Int32.toInt_inj.mp
  rw [nI_toInt (by omega)]
  omega
theorem db_of {x : Int32} (h : isDb x = true) : ∃ k, k < 10 ∧ x = nI (48 + k) := by
  obtain ⟨a, b⟩ := (db_iff x).mp h
  have a' : (48 : Int) ≤ x.toInt := by
    rw [Int32.lt_iff_toInt_lt] at a
    have : (48 : Int32).toInt = 48 := by decide
    omega
  have b' : x.toInt ≤ 57 := by
    rw [Int32.lt_iff_toInt_lt] at b
    have : (57 : Int32).toInt = 57 := by decide
    omega
  refine ⟨(x.toInt - 48).toNat, by omega, ?_⟩
  apply Int32.toInt_inj.mp
  rw [nI_toInt (by omega)]
  omega
theorem lb_syb : ∀ k, k < 26 → isSyb (nI (97 + k)) = false ∧ isDb (nI (97 + k)) = false ∧ isLb (nI (97 + k)) = true := by decide +kernel
theorem db_syb : ∀ k, k < 10 → isSyb (nI (48 + k)) = false ∧ isLb (nI (48 + k)) = false ∧ isDb (nI (48 + k)) = true := by decide +kernel
theorem syb_not {x : Int32} (h : isSyb x = true) : isLb x = false ∧ isDb x = false := by
  rcases syb_cases h with h | h | h | h | h | h | h | h | h <;> (rw [h]; decide)
/-- a symbol's kind is the symbol -/
theorem tkd_syb {t : Nat → Int32} {tl s : Nat} (h : s < tl) (hs : isSyb (t s) = true) : tkd t tl s = t s := by
  rw [tkd_in h, if_neg (by rw [(syb_not hs).1]; decide), if_neg (by rw [(syb_not hs).2]; decide), if_pos hs]
theorem tnd_syb {t : Nat → Int32} {tl s : Nat} (h : s < tl) (hs : isSyb (t s) = true) : tnd t tl s = s + 1 := by
  unfold tnd
  rw [if_neg (by omega), if_neg (by rw [(syb_not hs).1]; decide), if_neg (by rw [(syb_not hs).2]; decide)]
/-- a kind that is a symbol -/
theorem tkd_is {t : Nat → Int32} {tl s : Nat} {x : Int32} (hx : isSyb x = true) (h : tkd t tl s = x) : s < tl ∧ t s = x := by
  have n1 : x ≠ 11 := fun e => by rw [e] at hx; exact absurd hx (by decide)
  have n2 : x ≠ 12 := fun e => by rw [e] at hx; exact absurd hx (by decide)
  have n3 : x ≠ 13 := fun e => by rw [e] at hx; exact absurd hx (by decide)
  have n4 : x ≠ 14 := fun e => by rw [e] at hx; exact absurd hx (by decide)
  rcases Nat.lt_or_ge s tl with c | c
  · refine ⟨c, ?_⟩
    rw [tkd_in c] at h
    split at h
    · exact absurd h.symm n2
    · split at h
      · exact absurd h.symm n3
      · split at h
        · exact h
        · exact absurd h.symm n4
  · rw [tkd_end c] at h
    exact absurd h.symm n1
theorem tkd_12 {t : Nat → Int32} {tl s : Nat} : tkd t tl s = 12 ↔ s < tl ∧ isLb (t s) = true := by
  constructor
  · intro h
    rcases Nat.lt_or_ge s tl with c | c
    · refine ⟨c, ?_⟩
      rw [tkd_in c] at h
      split at h
      · assumption
      · split at h
        · exact absurd h (by decide)
        · split at h
          · rename_i hs
            rw [h] at hs; exact absurd hs (by decide)
          · exact absurd h (by decide)
    · rw [tkd_end c] at h; exact absurd h (by decide)
  · intro ⟨c, h⟩
    rw [tkd_in c, if_pos h]
theorem tkd_13 {t : Nat → Int32} {tl s : Nat} : tkd t tl s = 13 ↔ s < tl ∧ isDb (t s) = true := by
  constructor
  · intro h
    rcases Nat.lt_or_ge s tl with c | c
    · refine ⟨c, ?_⟩
      rw [tkd_in c] at h
      split at h
      · exact absurd h (by decide)
      · split at h
        · assumption
        · split at h
          · rename_i hs
            rw [h] at hs; exact absurd hs (by decide)
          · exact absurd h (by decide)
    · rw [tkd_end c] at h; exact absurd h (by decide)
  · intro ⟨c, h⟩
    obtain ⟨k, hk, e⟩ := db_of h
    rw [tkd_in c, if_neg (by rw [e, (db_syb k hk).2.1]; decide), if_pos h]
theorem tkd_11 {t : Nat → Int32} {tl s : Nat} : tkd t tl s = 11 ↔ tl ≤ s := by
  constructor
  · intro h
    rcases Nat.lt_or_ge s tl with c | c
    · rw [tkd_in c] at h
      split at h
      · exact absurd h (by decide)
      · split at h
        · exact absurd h (by decide)
        · split at h
          · rename_i hs
            rw [h] at hs; exact absurd hs (by decide)
          · exact absurd h (by decide)
    · exact c
  · intro h; exact tkd_end h
theorem tnd_L {t : Nat → Int32} {tl s : Nat} (h : s < tl) (hl : isLb (t s) = true) : tnd t tl s = scn isLb t tl s := by
  unfold tnd
  rw [if_neg (by omega), if_pos hl, scn_yes h hl]
theorem tnd_D {t : Nat → Int32} {tl s : Nat} (h : s < tl) (hd : isDb (t s) = true) : tnd t tl s = scn isDb t tl s := by
  obtain ⟨k, hk, e⟩ := db_of hd
  unfold tnd
  rw [if_neg (by omega), if_neg (by rw [e, (db_syb k hk).2.1]; decide), if_pos hd, scn_yes h hd]
/-- which operation the word from p to q names, in the model's numbers; 0 if none -/
def w3 (t : Nat → Int32) (p q : Nat) (a b c : Int32) : Bool := decide (q = p + 3) && (decide (t p = a) && (decide (t (p + 1) = b) && decide (t (p + 2) = c)))
def fnW (t : Nat → Int32) (p q : Nat) : Nat := if w3 t p q 109 97 120 = true then 10 else if w3 t p q 109 105 110 = true then 11 else if w3 t p q 104 105 116 = true then 12 else if w3 t p q 115 117 98 = true then 13 else 0
/-- the mask that the letters from i on, n of them, make with m; none if one is no element or comes twice -/
def mkW (t : Nat → Int32) : Nat → Nat → Nat → Option Nat
  | 0, _, m => some m
  | n + 1, i, m => if (t i - 97).toBitVec.toNat < 12 ∧ m.testBit (t i - 97).toBitVec.toNat = false then mkW t n (i + 1) (m + 2 ^ (t i - 97).toBitVec.toNat) else none
theorem mkW_lt (t : Nat → Int32) : ∀ n i m r, m < 4096 → mkW t n i m = some r → r < 4096 ∧ m ≤ r ∧ (0 < n → m < r)
  | 0, i, m, r, hm, h => by
    have : m = r := Option.some.inj h
    subst this
    exact ⟨hm, Nat.le_refl _, fun z => absurd z (by omega)⟩
  | n + 1, i, m, r, hm, h => by
    have h : (if (t i - 97).toBitVec.toNat < 12 ∧ m.testBit (t i - 97).toBitVec.toNat = false then mkW t n (i + 1) (m + 2 ^ (t i - 97).toBitVec.toNat) else none) = some r := h
    split at h
    · rename_i hc
      have := Nat.two_pow_pos (t i - 97).toBitVec.toNat
      have := mkW_lt t n (i + 1) _ r (add_lt hm hc.1 hc.2) h
      exact ⟨this.1, by omega, fun _ => by omega⟩
    · exact absurd h (by simp)
/-- the number that the digits from i on, n of them, make behind v -/
def nvW (t : Nat → Int32) : Nat → Nat → Nat → Nat
  | 0, _, v => v
  | n + 1, i, v => nvW t n (i + 1) (10 * v + (t i - 48).toBitVec.toNat)
theorem dig_v {x : Int32} (h : isDb x = true) : (x - 48).toBitVec.toNat < 10 ∧ x = nI (48 + (x - 48).toBitVec.toNat) := by
  obtain ⟨k, hk, rfl⟩ := db_of h
  have e : nI (48 + k) - 48 = nI k := (pk_sub (a := 48 + k) (b := 48) (by omega)).trans (by congr 1; omega)
  rw [e, pk_tn (by omega)]
  exact ⟨hk, rfl⟩
theorem dig_step {x : Int32} {v : Nat} (h : isDb x = true) : ((10 : Int32) * nI v + x) - 48 = nI (10 * v + (x - 48).toBitVec.toNat) ∧ (nI v * 10 + x) - 48 = nI (10 * v + (x - 48).toBitVec.toNat) := by
  obtain ⟨h1, h2⟩ := dig_v h
  generalize (x - 48).toBitVec.toNat = k at h1 h2 ⊢
  have e : ((10 : Int32) * nI v + x) - 48 = nI (10 * v + k) := by
    rw [h2, show (10 : Int32) = nI 10 from rfl, pk_mul, nI_add, show (48 : Int32) = nI 48 from rfl, pk_sub (by omega)]
    congr 1; omega
  exact ⟨e, by rw [Int32.mul_comm]; exact e⟩
theorem nvW_lt (t : Nat → Int32) : ∀ n i v k, (∀ j, i ≤ j → j < i + n → isDb (t j) = true) → v < 10 ^ k → nvW t n i v < 10 ^ (k + n)
  | 0, i, v, k, _, h => h
  | n + 1, i, v, k, hd, h => by
    have d := (dig_v (hd i (Nat.le_refl _) (by omega))).1
    have := nvW_lt t n (i + 1) (10 * v + (t i - 48).toBitVec.toNat) (k + 1) (fun j a b => hd j (by omega) (by omega)) (by rw [Nat.pow_succ]; omega)
    rw [show k + (n + 1) = k + 1 + n by omega]
    exact this
/-- a step of a program: what the class writes down for it -/
def ckS (s : Nat) : Nat := if s = 99 then 9 else if s < 99 then clsOp s else if s < 10000 then 8 else 10
def cvS (s : Nat) : Nat := if s ≤ 99 then 0 else if s < 10000 then s - 100 else s - 10000
/-- steps that there may be, with n families, of which rel are released -/
def okStep (n : Nat) (rel : Nat → Bool) (s : Nat) : Prop := (1 ≤ s ∧ s ≤ 13) ∨ s = 99 ∨ (100 ≤ s ∧ s < 100 + 4096) ∨ ∃ f, s = 10000 + f ∧ f < n ∧ rel f = false
/-- a program takes a stack of height h, never above M, to height k -/
def okS (M : Nat) : List Nat → Nat → Nat → Prop
  | [], h, k => h = k
  | s :: r, h, k => if 99 ≤ s then h < M ∧ okS M r (h + 1) k else if 10 ≤ s then 1 ≤ h ∧ okS M r h k else 2 ≤ h ∧ okS M r (h - 1) k
theorem okS_app {M : Nat} : ∀ (a b : List Nat) {h k l : Nat}, okS M a h k → okS M b k l → okS M (a ++ b) h l
  | [], b, h, k, l, ha, hb => by
    have : h = k := ha
    rw [this]; exact hb
  | s :: r, b, h, k, l, ha, hb => by
    have ha : if 99 ≤ s then h < M ∧ okS M r (h + 1) k else if 10 ≤ s then 1 ≤ h ∧ okS M r h k else 2 ≤ h ∧ okS M r (h - 1) k := ha
    show if 99 ≤ s then h < M ∧ okS M (r ++ b) (h + 1) l else if 10 ≤ s then 1 ≤ h ∧ okS M (r ++ b) h l else 2 ≤ h ∧ okS M (r ++ b) (h - 1) l
    split
    · rw [if_pos (by assumption)] at ha
      exact ⟨ha.1, okS_app r b ha.2 hb⟩
    · rw [if_neg (by assumption)] at ha
      split
      · rw [if_pos (by assumption)] at ha
        exact ⟨ha.1, okS_app r b ha.2 hb⟩
      · rw [if_neg (by assumption)] at ha
        exact ⟨ha.1, okS_app r b ha.2 hb⟩
theorem okS_1 {M s h : Nat} (hs : 99 ≤ s) (hm : h < M) : okS M [s] h (h + 1) := by
  show if 99 ≤ s then h < M ∧ (h + 1 = h + 1) else _
  rw [if_pos hs]; exact ⟨hm, rfl⟩
theorem okS_u {M s h : Nat} (hs : 10 ≤ s) (h9 : s < 99) (hm : 1 ≤ h) : okS M [s] h h := by
  show if 99 ≤ s then h < M ∧ (h + 1 = h) else if 10 ≤ s then 1 ≤ h ∧ (h = h) else _
  rw [if_neg (by omega), if_pos hs]; exact ⟨hm, rfl⟩
theorem okS_b {M s h : Nat} (hs : s < 10) : okS M [s] (h + 2) (h + 1) := by
  show if 99 ≤ s then h + 2 < M ∧ (h + 2 + 1 = h + 1) else if 10 ≤ s then 1 ≤ h + 2 ∧ (h + 2 = h + 1) else 2 ≤ h + 2 ∧ (h + 2 - 1 = h + 1)
  rw [if_neg (by omega), if_neg (by omega)]; exact ⟨by omega, by omega⟩
/-- one step, in the class's numbers -/
theorem ck_op {s : Nat} (h : s < 99) : ckS s = clsOp s := by unfold ckS; rw [if_neg (by omega), if_pos h]
theorem cv_op {s : Nat} (h : s < 99) : cvS s = 0 := if_pos (by omega)
theorem ck_set {m : Nat} (h : m < 4096) : ckS (100 + m) = 8 := by unfold ckS; rw [if_neg (by omega), if_neg (by omega), if_pos (by omega)]
theorem cv_set {m : Nat} (h : m < 4096) : cvS (100 + m) = m := by unfold cvS; rw [if_neg (by omega), if_pos (by omega)]; omega
theorem ck_fam (f : Nat) : ckS (10000 + f) = 10 := by unfold ckS; rw [if_neg (by omega), if_neg (by omega), if_neg (by omega)]
theorem cv_fam (f : Nat) : cvS (10000 + f) = f := by unfold cvS; rw [if_neg (by omega), if_neg (by omega)]; omega
