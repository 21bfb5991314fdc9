/-! PURE ROWS: counts of sets below and above, of pairs by their union and their common part. -/
noncomputable def bd (P : Prop) : Bool := @decide P (Classical.propDecidable P)
theorem bd_true {P : Prop} : bd P = true ↔ P := by unfold bd; exact @decide_eq_true_iff P (Classical.propDecidable P)
theorem bd_false {P : Prop} : bd P = false ↔ ¬ P := by unfold bd; exact @decide_eq_false_iff_not P (Classical.propDecidable P)
theorem bd_congr {P Q : Prop} (h : P ↔ Q) : bd P = bd Q := by rw [propext h]
noncomputable def ctp (P : Nat → Prop) (n : Nat) : Nat := fb_ct (fun x => bd (P x)) n
theorem ctp_congr {P Q : Nat → Prop} {n : Nat} (h : ∀ x, x < n → (P x ↔ Q x)) : ctp P n = ctp Q n := fb_ct_cong (fun x hx => bd_congr (h x hx))
theorem ctp_or {P Q : Nat → Prop} {n : Nat} (h : ∀ x, x < n → ¬ (P x ∧ Q x)) : ctp (fun x => P x ∨ Q x) n = ctp P n + ctp Q n := by
  unfold ctp
  rw [← fb_ct_or (fun k hk => fun z => h k hk ⟨bd_true.mp z.1, bd_true.mp z.2⟩)]
  apply fb_ct_cong
  intro x hx
  by_cases c : P x ∨ Q x
  · rw [bd_true.mpr c]
    rcases c with c | c
    · rw [bd_true.mpr c]; rfl
    · rw [bd_true.mpr c, Bool.or_true]
  · rw [bd_false.mpr c, bd_false.mpr (fun z => c (Or.inl z)), bd_false.mpr (fun z => c (Or.inr z))]; rfl
theorem ctp_zero {P : Nat → Prop} {n : Nat} : ctp P n = 0 ↔ ∀ x, x < n → ¬ P x := by
  unfold ctp
  rw [fb_ct_zero]
  exact ⟨fun h x hx => bd_false.mp (h x hx), fun h x hx => bd_false.mpr (h x hx)⟩
theorem ctp_pos {P : Nat → Prop} {n : Nat} : 0 < ctp P n ↔ ∃ x, x < n ∧ P x := by
  unfold ctp
  rw [fb_ct_pos]
  exact ⟨fun ⟨x, h, h2⟩ => ⟨x, h, bd_true.mp h2⟩, fun ⟨x, h, h2⟩ => ⟨x, h, bd_true.mpr h2⟩⟩
theorem ctp_le (P : Nat → Prop) (n : Nat) : ctp P n ≤ n := fb_ct_le _ n
theorem ctp_none {P : Nat → Prop} {n : Nat} (h : ∀ x, x < n → ¬ P x) : ctp P n = 0 := ctp_zero.mpr h
theorem ctp_split (P : Nat → Prop) (m n : Nat) : ctp P (m + n) = ctp P m + ctp (fun k => P (m + k)) n := fb_ct_split _ m n
theorem ctp_one {P : Nat → Prop} {n a : Nat} (ha : a < n) (h : ∀ x, x < n → (P x ↔ x = a)) : ctp P n = 1 := by
  obtain ⟨k, rfl⟩ : ∃ k, n = a + 1 + k := ⟨n - (a + 1), by omega⟩
  rw [ctp_split, ctp_split, ctp_none (P := P) (n := a) (fun x hx z => by have := (h x (by omega)).mp z; omega), ctp_none (P := fun k => P (a + 1 + k)) (fun x hx z => by have := (h _ (by omega)).mp z; omega)]
  show 0 + ctp (fun k => P (a + k)) 1 + 0 = 1
  have : bd (P (a + 0)) = true := bd_true.mpr ((h a (by omega)).mpr rfl)
  unfold ctp fb_ct
  rw [this]
  rfl
/-- two places: two at least -/
theorem ctp_two {P : Nat → Prop} {n a b : Nat} (ha : a < n) (hb : b < n) (hab : a ≠ b) (h1 : P a) (h2 : P b) : ctp P n ≠ 1 := by
  have e : ctp P n = ctp (fun x => (P x ∧ x = a) ∨ (P x ∧ x ≠ a)) n := ctp_congr (fun x _ => ⟨fun h => by by_cases c : x = a; exact Or.inl ⟨h, c⟩; exact Or.inr ⟨h, c⟩, fun h => by rcases h with h | h <;> exact h.1⟩)
  rw [e, ctp_or (fun x _ z => z.2.2 z.1.2)]
  have p1 : 0 < ctp (fun x => P x ∧ x = a) n := ctp_pos.mpr ⟨a, ha, h1, rfl⟩
  have p2 : 0 < ctp (fun x => P x ∧ x ≠ a) n := ctp_pos.mpr ⟨b, hb, h2, fun z => hab z.symm⟩
  omega
theorem ctp_mul (P Q : Nat → Prop) (n : Nat) (hn : 0 < n) : ∀ k, ctp (fun z => P (z / n) ∧ Q (z % n)) (k * n) = ctp P k * ctp Q n := by
  intro k
  induction k with
  | zero => rw [Nat.zero_mul]; exact (Nat.zero_mul _).symm
  | succ k ih =>
    rw [Nat.add_mul, Nat.one_mul, ctp_split, ih]
    have e : ctp (fun j => P ((k * n + j) / n) ∧ Q ((k * n + j) % n)) n = ctp (fun j => P k ∧ Q j) n := by
      apply ctp_congr
      intro j hj
      rw [Nat.mul_comm k n, Nat.mul_add_div hn, Nat.mul_add_mod, Nat.div_eq_of_lt hj, Nat.mod_eq_of_lt hj, Nat.add_zero]
    rw [e]
    have e2 : ctp P (k + 1) = ctp P k + (if bd (P k) then 1 else 0) := rfl
    rw [e2, Nat.add_mul]
    congr 1
    by_cases c : P k
    · rw [bd_true.mpr c, if_pos rfl, Nat.one_mul]
      exact ctp_congr (fun j _ => ⟨fun h => h.2, fun h => ⟨c, h⟩⟩)
    · rw [bd_false.mpr c, if_neg (by decide), Nat.zero_mul]
      exact ctp_none (fun j _ h => c h.1)
/-- how many sets of F are m with bits below e taken out -/
noncomputable def dn (F : Nat → Bool) (e m : Nat) : Nat := ctp (fun x => F x = true ∧ SbE e x m) 4096
noncomputable def upc (F : Nat → Bool) (e m : Nat) : Nat := ctp (fun x => F x = true ∧ SbE e m x) 4096
theorem SbE_no {e x m : Nat} (hb : m.testBit e = true) : ¬ (SbE e x m ∧ SbE e x (m - 2 ^ e)) := by
  rintro ⟨h1, h2⟩
  have a := h1.2 e (by omega)
  have b := h2.2 e (by omega)
  rw [(tb_sub hb).2] at b
  rw [hb] at a b
  rw [a] at b
  simp at b
theorem SbE_no2 {e x m : Nat} (hb : m.testBit e = false) : ¬ (SbE e m x ∧ SbE e (m + 2 ^ e) x) := by
  rintro ⟨h1, h2⟩
  have a := h1.2 e (by omega)
  have b := h2.2 e (by omega)
  rw [tb_add hb, hb] at b
  rw [hb] at a
  rw [← a] at b
  simp at b
theorem dn_0 {F : Nat → Bool} {m : Nat} (hm : m < 4096) : dn F 0 m = if F m then 1 else 0 := by
  unfold dn
  cases h : F m
  · exact ctp_none (fun x _ z => by rw [(SbE_0 x m).mp z.2, h] at z; exact absurd z.1 (by decide))
  · exact ctp_one hm (fun x _ => ⟨fun z => (SbE_0 x m).mp z.2, fun z => by rw [z]; exact ⟨h, (SbE_0 m m).mpr rfl⟩⟩)
theorem upc_0 {F : Nat → Bool} {m : Nat} (hm : m < 4096) : upc F 0 m = if F m then 1 else 0 := by
  unfold upc
  cases h : F m
  · exact ctp_none (fun x _ z => by rw [← (SbE_0 m x).mp z.2, h] at z; exact absurd z.1 (by decide))
  · exact ctp_one hm (fun x _ => ⟨fun z => ((SbE_0 m x).mp z.2).symm, fun z => by rw [z]; exact ⟨h, (SbE_0 m m).mpr rfl⟩⟩)
theorem dn_s (F : Nat → Bool) (e m : Nat) : dn F (e + 1) m = dn F e m + (if m.testBit e then dn F e (m - 2 ^ e) else 0) := by
  unfold dn
  cases hb : m.testBit e
  · rw [if_neg (by decide)]
    refine Eq.trans (ctp_congr (n := 4096) (fun x _ => ?_)) (Nat.add_zero _).symm
    rw [SbE_dn, hb]
    simp only [Bool.false_eq_true, false_and, or_false]
  · rw [if_pos rfl, ← ctp_or (fun x _ z => SbE_no hb ⟨z.1.2, z.2.2⟩)]
    exact ctp_congr (fun x _ => by rw [SbE_dn, hb, ← and_or_left]; simp)
theorem upc_s (F : Nat → Bool) (e m : Nat) : upc F (e + 1) m = upc F e m + (if m.testBit e then 0 else upc F e (m + 2 ^ e)) := by
  unfold upc
  cases hb : m.testBit e
  · rw [if_neg (by decide), ← ctp_or (fun x _ z => SbE_no2 hb ⟨z.1.2, z.2.2⟩)]
    exact ctp_congr (fun x _ => by rw [SbE_up, hb, ← and_or_left]; simp)
  · rw [if_pos rfl]
    refine Eq.trans (ctp_congr (n := 4096) (fun x _ => ?_)) (Nat.add_zero _).symm
    rw [SbE_up, hb]
    simp only [Bool.true_eq_false, false_and, or_false]
theorem dn_pos {F : Nat → Bool} {m : Nat} (hm : m < 4096) : 0 < dn F 12 m ↔ hasDn F m := by
  unfold dn
  rw [ctp_pos]
  exact ⟨fun ⟨x, h, h1, h2⟩ => ⟨x, h, h1, (SbE_12 h hm).mp h2⟩, fun ⟨x, h, h1, h2⟩ => ⟨x, h, h1, (SbE_12 h hm).mpr h2⟩⟩
theorem upc_pos {F : Nat → Bool} {m : Nat} (hm : m < 4096) : 0 < upc F 12 m ↔ hasUp F m := by
  unfold upc
  rw [ctp_pos]
  exact ⟨fun ⟨x, h, h1, h2⟩ => ⟨x, h, h1, (SbE_12 hm h).mp h2⟩, fun ⟨x, h, h1, h2⟩ => ⟨x, h, h1, (SbE_12 hm h).mpr h2⟩⟩
theorem Sb_refl (m : Nat) : Sb m m := fun _ h => h
/-- minimal, maximal sets -/
def isMin (F : Nat → Bool) (m : Nat) : Prop := F m = true ∧ ∀ x, x < 4096 → F x = true → Sb x m → x = m
def isMax (F : Nat → Bool) (m : Nat) : Prop := F m = true ∧ ∀ x, x < 4096 → F x = true → Sb m x → x = m
theorem dn_one {F : Nat → Bool} {m : Nat} (hm : m < 4096) : (F m = true ∧ dn F 12 m = 1) ↔ isMin F m := by
  constructor
  · rintro ⟨h, h1⟩
    refine ⟨h, fun x hx hf hs => ?_⟩
    by_cases c : x = m
    · exact c
    · exact absurd h1 (ctp_two hx hm c ⟨hf, (SbE_12 hx hm).mpr hs⟩ ⟨h, (SbE_12 hm hm).mpr (Sb_refl m)⟩)
  · rintro ⟨h, h1⟩
    exact ⟨h, ctp_one hm (fun x hx => ⟨fun z => h1 x hx z.1 ((SbE_12 hx hm).mp z.2), fun z => by rw [z]; exact ⟨h, (SbE_12 hm hm).mpr (Sb_refl m)⟩⟩)⟩
theorem upc_one {F : Nat → Bool} {m : Nat} (hm : m < 4096) : (F m = true ∧ upc F 12 m = 1) ↔ isMax F m := by
  constructor
  · rintro ⟨h, h1⟩
    refine ⟨h, fun x hx hf hs => ?_⟩
    by_cases c : x = m
    · exact c
    · exact absurd h1 (ctp_two hx hm c ⟨hf, (SbE_12 hm hx).mpr hs⟩ ⟨h, (SbE_12 hm hm).mpr (Sb_refl m)⟩)
  · rintro ⟨h, h1⟩
    exact ⟨h, ctp_one hm (fun x hx => ⟨fun z => h1 x hx z.1 ((SbE_12 hm hx).mp z.2), fun z => by rw [z]; exact ⟨h, (SbE_12 hm hm).mpr (Sb_refl m)⟩⟩)⟩
/-- x inside m, and equal below e; m inside x, and equal below e -/
def SbT (e x m : Nat) : Prop := (∀ i, i < e → x.testBit i = m.testBit i) ∧ Sb x m
def UbT (e x m : Nat) : Prop := (∀ i, i < e → x.testBit i = m.testBit i) ∧ Sb m x
theorem SbT_s {e x m : Nat} : SbT e x m ↔ SbT (e + 1) x m ∨ (m.testBit e = true ∧ SbT e x (m - 2 ^ e)) := by
  constructor
  · rintro ⟨h1, h2⟩
    by_cases c : x.testBit e = m.testBit e
    · refine Or.inl ⟨fun i hi => ?_, h2⟩
      by_cases q : i = e
      · rw [q]; exact c
      · exact h1 i (by omega)
    · cases hx : x.testBit e
      · have hb : m.testBit e = true := ts_nf (fun z => c (by rw [hx, z]))
        have S := (tb_sub hb).2
        refine Or.inr ⟨hb, fun i hi => by rw [S, h1 i hi, decide_eq_false (by omega)]; simp, fun i hi => ?_⟩
        rw [S, h2 i hi]
        by_cases q : i = e
        · rw [q, hx] at hi; exact absurd hi (by decide)
        · simp [q]
      · exact absurd (by rw [hx]; exact (h2 e hx).symm) c
  · rintro (⟨h1, h2⟩ | ⟨hb, h1, h2⟩)
    · exact ⟨fun i hi => h1 i (by omega), h2⟩
    · have S := (tb_sub hb).2
      refine ⟨fun i hi => by rw [h1 i hi, S, decide_eq_false (by omega)]; simp, fun i hi => ?_⟩
      have := h2 i hi
      rw [S] at this
      revert this
      cases m.testBit i <;> simp
theorem SbT_no {e x m : Nat} (hb : m.testBit e = true) : ¬ (SbT (e + 1) x m ∧ SbT e x (m - 2 ^ e)) := by
  rintro ⟨h1, h2⟩
  have a := h1.1 e (by omega)
  rw [hb] at a
  have b := h2.2 e a
  rw [(tb_sub hb).2] at b
  simp at b
theorem UbT_s {e x m : Nat} : UbT e x m ↔ UbT (e + 1) x m ∨ (m.testBit e = false ∧ UbT e x (m + 2 ^ e)) := by
  constructor
  · rintro ⟨h1, h2⟩
    by_cases c : x.testBit e = m.testBit e
    · refine Or.inl ⟨fun i hi => ?_, h2⟩
      by_cases q : i = e
      · rw [q]; exact c
      · exact h1 i (by omega)
    · cases hx : x.testBit e
      · cases hb : m.testBit e
        · exact absurd (by rw [hx, hb]) c
        · have := h2 e hb
          rw [hx] at this; exact absurd this (by decide)
      · have hb : m.testBit e = false := ts_nt (fun z => c (by rw [hx, z]))
        refine Or.inr ⟨hb, fun i hi => by rw [tb_add hb, h1 i hi, decide_eq_false (by omega)]; simp, fun i hi => ?_⟩
        rw [tb_add hb] at hi
        by_cases q : i = e
        · rw [q]; exact hx
        · rw [decide_eq_false q, Bool.or_false] at hi; exact h2 i hi
  · rintro (⟨h1, h2⟩ | ⟨hb, h1, h2⟩)
    · exact ⟨fun i hi => h1 i (by omega), h2⟩
    · refine ⟨fun i hi => by rw [h1 i hi, tb_add hb, decide_eq_false (by omega)]; simp, fun i hi => ?_⟩
      exact h2 i (by rw [tb_add hb, hi]; rfl)
theorem UbT_no {e x m : Nat} (hb : m.testBit e = false) : ¬ (UbT (e + 1) x m ∧ UbT e x (m + 2 ^ e)) := by
  rintro ⟨h1, h2⟩
  have a := h1.1 e (by omega)
  rw [hb] at a
  have b := h2.2 e (by rw [tb_add hb]; simp)
  rw [a] at b
  exact absurd b (by decide)
/-- pairs by their union, by their common part -/
noncomputable def jn (F G : Nat → Bool) (e m : Nat) : Nat := ctp (fun z => (F (z / 4096) = true ∧ G (z % 4096) = true) ∧ SbT e (z / 4096 ||| z % 4096) m) (4096 * 4096)
noncomputable def mt (F G : Nat → Bool) (e m : Nat) : Nat := ctp (fun z => (F (z / 4096) = true ∧ G (z % 4096) = true) ∧ UbT e (z / 4096 &&& z % 4096) m) (4096 * 4096)
theorem jn_0 {F G : Nat → Bool} {m : Nat} (hm : m < 4096) : jn F G 0 m = dn F 12 m * dn G 12 m := by
  unfold jn dn
  rw [← ctp_mul _ _ 4096 (by decide) 4096]
  apply ctp_congr
  intro z hz
  have h1 : z / 4096 < 4096 := by omega
  have h2 : z % 4096 < 4096 := by omega
  constructor
  · rintro ⟨⟨a, b⟩, c⟩
    exact ⟨⟨a, (SbE_12 h1 hm).mpr (fun i hi => c.2 i (by rw [Nat.testBit_or, hi]; rfl))⟩, ⟨b, (SbE_12 h2 hm).mpr (fun i hi => c.2 i (by rw [Nat.testBit_or, hi, Bool.or_true]))⟩⟩
  · rintro ⟨⟨a, c⟩, ⟨b, c2⟩⟩
    refine ⟨⟨a, b⟩, fun i hi => absurd hi (by omega), fun i hi => ?_⟩
    rw [Nat.testBit_or, Bool.or_eq_true] at hi
    rcases hi with hi | hi
    · exact (SbE_12 h1 hm).mp c i hi
    · exact (SbE_12 h2 hm).mp c2 i hi
theorem mt_0 {F G : Nat → Bool} {m : Nat} (hm : m < 4096) : mt F G 0 m = upc F 12 m * upc G 12 m := by
  unfold mt upc
  rw [← ctp_mul _ _ 4096 (by decide) 4096]
  apply ctp_congr
  intro z hz
  have h1 : z / 4096 < 4096 := by omega
  have h2 : z % 4096 < 4096 := by omega
  constructor
  · rintro ⟨⟨a, b⟩, c⟩
    refine ⟨⟨a, (SbE_12 hm h1).mpr (fun i hi => ?_)⟩, ⟨b, (SbE_12 hm h2).mpr (fun i hi => ?_)⟩⟩
    · have := c.2 i hi
      rw [Nat.testBit_and, Bool.and_eq_true] at this; exact this.1
    · have := c.2 i hi
      rw [Nat.testBit_and, Bool.and_eq_true] at this; exact this.2
  · rintro ⟨⟨a, c⟩, ⟨b, c2⟩⟩
    refine ⟨⟨a, b⟩, fun i hi => absurd hi (by omega), fun i hi => ?_⟩
    rw [Nat.testBit_and, (SbE_12 hm h1).mp c i hi, (SbE_12 hm h2).mp c2 i hi]; rfl
theorem jn_s (F G : Nat → Bool) (e m : Nat) : jn F G e m = jn F G (e + 1) m + (if m.testBit e then jn F G e (m - 2 ^ e) else 0) := by
  unfold jn
  cases hb : m.testBit e
  · rw [if_neg (by decide), Nat.add_zero]
    exact ctp_congr (fun x _ => and_congr_right (fun _ => by rw [SbT_s, hb]; simp))
  · rw [if_pos rfl, ← ctp_or (fun x _ z => SbT_no hb ⟨z.1.2, z.2.2⟩)]
    exact ctp_congr (fun x _ => by rw [SbT_s, hb, ← and_or_left]; simp)
theorem mt_s (F G : Nat → Bool) (e m : Nat) : mt F G e m = mt F G (e + 1) m + (if m.testBit e then 0 else mt F G e (m + 2 ^ e)) := by
  unfold mt
  cases hb : m.testBit e
  · rw [if_neg (by decide), ← ctp_or (fun x _ z => UbT_no hb ⟨z.1.2, z.2.2⟩)]
    exact ctp_congr (fun x _ => by rw [UbT_s, hb, ← and_or_left]; simp)
  · rw [if_pos rfl, Nat.add_zero]
    exact ctp_congr (fun x _ => and_congr_right (fun _ => by rw [UbT_s, hb]; simp))
theorem T_12 {x m : Nat} (hx : x < 4096) (hm : m < 4096) (h : ∀ i, i < 12 → x.testBit i = m.testBit i) : x = m := by
  apply Nat.eq_of_testBit_eq
  intro i
  rcases Nat.lt_or_ge i 12 with c | c
  · exact h i c
  · rw [tb_big hx c, tb_big hm c]
def isJn (F G : Nat → Bool) (m : Nat) : Prop := ∃ x y, x < 4096 ∧ y < 4096 ∧ F x = true ∧ G y = true ∧ x ||| y = m
def isMt (F G : Nat → Bool) (m : Nat) : Prop := ∃ x y, x < 4096 ∧ y < 4096 ∧ F x = true ∧ G y = true ∧ x &&& y = m
theorem or_lt {x y : Nat} (hx : x < 4096) (hy : y < 4096) : x ||| y < 4096 := Nat.or_lt_two_pow (n := 12) hx hy
theorem and_lt {x y : Nat} (hx : x < 4096) : x &&& y < 4096 := Nat.lt_of_le_of_lt Nat.and_le_left hx
theorem jn_pos {F G : Nat → Bool} {m : Nat} (hm : m < 4096) : 0 < jn F G 12 m ↔ isJn F G m := by
  unfold jn
  rw [ctp_pos]
  constructor
  · rintro ⟨z, hz, ⟨a, b⟩, c⟩
    exact ⟨z / 4096, z % 4096, by omega, by omega, a, b, T_12 (or_lt (by omega) (by omega)) hm c.1⟩
  · rintro ⟨x, y, hx, hy, a, b, rfl⟩
    refine ⟨4096 * x + y, by omega, ?_⟩
    rw [show (4096 * x + y) / 4096 = x by omega, show (4096 * x + y) % 4096 = y by omega]
    exact ⟨⟨a, b⟩, fun _ _ => rfl, Sb_refl _⟩
theorem mt_pos {F G : Nat → Bool} {m : Nat} (hm : m < 4096) : 0 < mt F G 12 m ↔ isMt F G m := by
  unfold mt
  rw [ctp_pos]
  constructor
  · rintro ⟨z, hz, ⟨a, b⟩, c⟩
    exact ⟨z / 4096, z % 4096, by omega, by omega, a, b, T_12 (and_lt (by omega)) hm c.1⟩
  · rintro ⟨x, y, hx, hy, a, b, rfl⟩
    refine ⟨4096 * x + y, by omega, ?_⟩
    rw [show (4096 * x + y) / 4096 = x by omega, show (4096 * x + y) % 4096 = y by omega]
    exact ⟨⟨a, b⟩, fun _ _ => rfl, Sb_refl _⟩
theorem jn_le (F G : Nat → Bool) (e m : Nat) : jn F G e m ≤ 4096 * 4096 := ctp_le _ _
theorem mt_le (F G : Nat → Bool) (e m : Nat) : mt F G e m ≤ 4096 * 4096 := ctp_le _ _
theorem dn_le (F : Nat → Bool) (e m : Nat) : dn F e m ≤ 4096 := ctp_le _ _
theorem upc_le (F : Nat → Bool) (e m : Nat) : upc F e m ≤ 4096 := ctp_le _ _

