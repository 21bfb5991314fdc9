/-! ROWS of Rows: swap, lower, raise; subsets and supersets by bits. -/
def swF (e : Nat) (A : Nat → Int64) (w : Nat) : Int64 := if e < 6 then ((A w &&& withV e).toUInt64 >>> UInt64.ofNat (2 ^ e)).toInt64 ||| ((A w ^^^ (A w &&& withV e)) <<< lN (2 ^ e)) else if w.testBit (e - 6) then A (w - 2 ^ (e - 6)) else A (w + 2 ^ (e - 6))
def flp (e m : Nat) : Nat := if m.testBit e then m - 2 ^ e else m + 2 ^ e
theorem tb_flp (e m i : Nat) : (flp e m).testBit i = (m.testBit i ^^ decide (i = e)) := by
  unfold flp
  cases h : m.testBit e
  · rw [if_neg (by decide), tb_add h]
    by_cases c : i = e
    · subst c; rw [h]; simp
    · simp [c]
  · rw [if_pos rfl, (tb_sub h).2]
    by_cases c : i = e
    · subst c; rw [h]; simp
    · simp [c]
theorem bs_swF {e : Nat} (he : e < 12) (A : Nat → Int64) {m : Nat} (hm : m < 4096) : bs (swF e A) m = bs A (flp e m) := by
  have h64 := Nat.mod_lt m (show 0 < 64 by decide)
  unfold swF flp
  rcases Nat.lt_or_ge e 6 with c | c
  · have hp := Nat.two_pow_pos e
    simp only [if_pos c]
    unfold bs
    rw [w_or, w_shl _ (2 ^ e) (el_sh e c).2.2 rfl h64, w_shr _ (2 ^ e) (el_sh e c).2.2 rfl, w_and, w_xor, w_and, tb_low c]
    cases hb : (m % 64).testBit e
    · obtain ⟨p1, p2⟩ := el_add1 e c _ h64 hb
      rw [if_neg (by decide), Nat.add_comm, el_wth e c _ p1, p2, show (m + 2 ^ e) / 64 = m / 64 by omega, show (m + 2 ^ e) % 64 = m % 64 + 2 ^ e by omega]
      rcases el_add4 e c _ h64 hb with q | q
      · rw [decide_eq_false (by omega)]; simp
      · rw [el_wth e c _ (by omega), q]; simp
    · obtain ⟨p1, p2⟩ := el_add3 e c _ h64 hb
      rw [if_pos rfl, el_wth e c (m % 64 - 2 ^ e) (by omega), p2, decide_eq_true p1, show (m - 2 ^ e) / 64 = m / 64 by omega, show (m - 2 ^ e) % 64 = m % 64 - 2 ^ e by omega]
      have : (wb (A (m / 64)) (2 ^ e + m % 64) && wb (withV e) (2 ^ e + m % 64)) = false := by
        rcases el_add2 e c _ h64 hb with q | q
        · rw [wb_ge _ (by omega)]; rfl
        · rcases Nat.lt_or_ge (2 ^ e + m % 64) 64 with g | g
          · rw [el_wth e c _ g, Nat.add_comm, q]; simp
          · rw [wb_ge _ g]; rfl
      rw [this]; simp
  · simp only [if_neg (show ¬ e < 6 by omega)]
    unfold bs
    rw [tb_high c, pw64 c]
    have hp := Nat.two_pow_pos (e - 6)
    dsimp only
    cases hb : (m / 64).testBit (e - 6)
    · rw [if_neg (by decide), if_neg (by decide), show (m + 64 * 2 ^ (e - 6)) / 64 = m / 64 + 2 ^ (e - 6) by omega, show (m + 64 * 2 ^ (e - 6)) % 64 = m % 64 by omega]
    · have hle := (tb_sub hb).1
      rw [if_pos rfl, if_pos rfl, show (m - 64 * 2 ^ (e - 6)) / 64 = m / 64 - 2 ^ (e - 6) by omega, show (m - 64 * 2 ^ (e - 6)) % 64 = m % 64 by omega]
def swG (s : Nat) (A : Nat → Int64) (k w : Nat) : Int64 := if w.testBit s then (if w < k + 2 ^ s then A (w - 2 ^ s) else A w) else (if w < k then A (w + 2 ^ s) else A w)
theorem swG_1 {s : Nat} {A : Nat → Int64} {k w : Nat} (h : w.testBit s = true) : swG s A k w = if w < k + 2 ^ s then A (w - 2 ^ s) else A w := if_pos h
theorem swG_0 {s : Nat} {A : Nat → Int64} {k w : Nat} (h : w.testBit s = false) : swG s A k w = if w < k then A (w + 2 ^ s) else A w := if_neg (by rw [h]; decide)
theorem swF_1 {e : Nat} {A : Nat → Int64} {w : Nat} (he : 6 ≤ e) (h : w.testBit (e - 6) = true) : swF e A w = A (w - 2 ^ (e - 6)) := by
  unfold swF
  rw [if_neg (show ¬ e < 6 by omega)]
  exact if_pos h
theorem swF_0 {e : Nat} {A : Nat → Int64} {w : Nat} (he : 6 ≤ e) (h : w.testBit (e - 6) = false) : swF e A w = A (w + 2 ^ (e - 6)) := by
  unfold swF
  rw [if_neg (show ¬ e < 6 by omega)]
  exact if_neg (by rw [h]; decide)
theorem swap_R {Γ : Gm} {d : Nat} {σ : AH} {a n e : Nat} (ha : hs σ a = some (23, n)) (hn : 64 ≤ n) (he : e < 12) : RV Γ d MX7_swap [.ref a, .int (nI e)] σ (fun σ' => ∃ f, σ' = rowJ σ a f ∧ ∀ m, m < 4096 → bs f m = bs (gj σ a) (flp e m)) := by
  refine RUN.wf (fun W => ?_)
  have hwb : wth Γ ≠ a := fun z => by have := W.2.1; rw [z, ha] at this; simp at this
  generalize hA : gj σ a = A
  have hi6 : (6 : Int32) ≤ nI e ↔ 6 ≤ e := nI_leI (by decide) (by omega)
  refine eX7_swap ⟨fun c => ?_, fun c => ⟨fun c2 => absurd c2 (nn0 (by omega)), fun _ => ?_⟩⟩
  · have c6 := hi6.mp c
    refine gX7_swap_56 ?_
    rw [el_up e he c6]
    have hs6 : e - 6 < 6 := by omega
    have hp : 2 ^ (e - 6) < 2 ^ 6 := Nat.pow_lt_pow_right (by decide) hs6
    have hp0 := Nat.two_pow_pos (e - 6)
    have L : ∀ k, k ≤ 64 - 2 ^ (e - 6) → EV Γ MX7_swap d 65 [some (.ref a), none, some (.int (nI (2 ^ (e - 6)))), some (.int (nI k)), none, none] [] (rowJ σ a (swG (e - 6) A k)) (fun o σ' => o = .inl none ∧ ∃ f, σ' = rowJ σ a f ∧ ∀ m, m < 4096 → bs f m = bs A (flp e m)) := by
      refine upto (64 - 2 ^ (e - 6)) ?_ (fun k hk ih => ?_)
      · refine gX7_swap_65 ⟨fun _ => ⟨rfl, _, rfl, fun m hm => ?_⟩, fun c => absurd (by rw [nI_add]; exact (c64le (by omega)).mpr (by omega)) c⟩
        rw [← bs_swF he A hm]
        refine bs_congr (fun w hw => ?_) hm
        have P := up_add (e - 6) hs6 w hw
        cases hb : w.testBit (e - 6)
        · rw [swG_0 hb, swF_0 c6 hb, if_pos (by have := (P.1 hb).1; omega)]
        · rw [swG_1 hb, swF_1 c6 hb, if_pos (by omega)]
      · have P := up_add (e - 6) hs6 k (by omega)
        refine gX7_swap_65 ⟨fun c => absurd (by rw [nI_add] at c; exact (c64le (by omega)).mp c) (by omega), fun _ => ⟨fun c => ?_, fun c => ?_⟩⟩
        · have hb2 : k.testBit (e - 6) = true := ts_nf (fun z => c (P.2.2.mpr z))
          have hb3 : (k + 2 ^ (e - 6)).testBit (e - 6) = false := by
            rw [Nat.add_comm, Nat.testBit_two_pow_add_eq, hb2]; rfl
          rw [nI_1]
          have : swG (e - 6) A k = swG (e - 6) A (k + 1) := by
            funext w
            cases hb : w.testBit (e - 6)
            · rw [swG_0 hb, swG_0 hb]
              have : w ≠ k := fun z => by rw [z, hb2] at hb; exact absurd hb (by decide)
              by_cases c1 : w < k
              · rw [if_pos c1, if_pos (by omega)]
              · rw [if_neg c1, if_neg (by omega)]
            · rw [swG_1 hb, swG_1 hb]
              have : w ≠ k + 2 ^ (e - 6) := fun z => by rw [z, hb3] at hb; exact absurd hb (by decide)
              by_cases c1 : w < k + 2 ^ (e - 6)
              · rw [if_pos c1, if_pos (by omega)]
              · rw [if_neg c1, if_neg (by omega)]
          rw [this]; exact ih
        · have hb2 := P.2.2.mp c
          have hb3 := (P.1 hb2).2
          refine ⟨n, ha, k + 2 ^ (e - 6), by rw [nI_add]; exact IXn (by omega) (by omega), k, IXn (by omega) (by omega), fun σ9 h9 σ12 h12 => ?_⟩
          have g1 : swG (e - 6) A k k = A k := by rw [swG_0 hb2, if_neg (by omega)]
          have g2 : swG (e - 6) A k (k + 2 ^ (e - 6)) = A (k + 2 ^ (e - 6)) := by rw [swG_1 hb3, if_neg (by omega)]
          rw [gj_row, g1, setJ_rowJ] at h9
          rw [gj_row, g2, h9, setJ_rowJ] at h12
          have : up (up (swG (e - 6) A k) (k + 2 ^ (e - 6)) (A k)) k (A (k + 2 ^ (e - 6))) = swG (e - 6) A (k + 1) := by
            funext w
            unfold up
            by_cases q1 : w = k
            · subst q1
              rw [if_pos rfl, swG_0 hb2, if_pos (by omega)]
            · rw [if_neg q1]
              by_cases q2 : w = k + 2 ^ (e - 6)
              · subst q2
                rw [if_pos rfl, swG_1 hb3, if_pos (by omega), Nat.add_sub_cancel]
              · rw [if_neg q2]
                cases hb : w.testBit (e - 6)
                · rw [swG_0 hb, swG_0 hb]
                  by_cases c3 : w < k
                  · rw [if_pos c3, if_pos (by omega)]
                  · rw [if_neg c3, if_neg (by omega)]
                · rw [swG_1 hb, swG_1 hb]
                  by_cases c1 : w < k + 2 ^ (e - 6)
                  · rw [if_pos c1, if_pos (by omega)]
                  · rw [if_neg c1, if_neg (by omega)]
          rw [h12, this, nI_1]; exact ih
    have := L 0 (by omega)
    have z : swG (e - 6) A 0 = A := by
      funext w
      cases hb : w.testBit (e - 6)
      · rw [swG_0 hb, if_neg (by omega)]
      · rw [swG_1 hb, if_neg (by have := (tb_sub hb).1; omega)]
    rw [z, ← hA, rowJ_self] at this
    rw [← hA]
    exact this
  · have c6 : e < 6 := by
      rcases Nat.lt_or_ge e 6 with g | g
      · exact g
      · exact absurd (hi6.mpr g) c
    have F : ∀ w, swF e A w = ((A w &&& withV e).toUInt64 >>> UInt64.ofNat (2 ^ e)).toInt64 ||| ((A w ^^^ (A w &&& withV e)) <<< lN (2 ^ e)) := fun w => if_pos c6
    have L : ∀ k, k ≤ 64 → EV Γ MX7_swap d 16 [some (.ref a), some (.int (nI e)), some (.int ((1 : Int32) <<< (nI e &&& 31))), some (.int (nI k)), none, none] [] (rowJ σ a (fl (swF e A) A k)) (fun o σ' => o = .inl none ∧ ∃ f, σ' = rowJ σ a f ∧ ∀ m, m < 4096 → bs f m = bs A (flp e m)) := by
      refine upto 64 ?_ (fun k hk ih => ?_)
      · refine gX7_swap_16 ⟨fun _ => ⟨rfl, _, rfl, fun m hm => ?_⟩, fun c => absurd ((c64le (by omega)).mpr (by omega)) c⟩
        rw [bs_fl hm, bs_swF he A hm]
      · refine gX7_swap_16 ⟨fun c => absurd ((c64le (by omega)).mp c) (by omega), fun _ => ⟨n, ha, k, IXn (by omega) (by omega), 6, W.2.1, e, IXn c6 (by omega), fun σ14 h14 => ?_⟩⟩
        rw [gj_row, fl_out (Nat.le_refl k), gj_rown _ _ hwb, W.2.2.1 e c6, (el_sh e c6).1, (el_sh e c6).2.1, fillJ _ _ _ _ _ _ (F k).symm] at h14
        rw [h14, nI_1]; exact ih
    have := L 0 (by omega)
    rw [fl_0, ← hA, rowJ_self] at this
    rw [← hA]
    exact this
/-- m lies inside x -/
def Sb (m x : Nat) : Prop := ∀ i, m.testBit i = true → x.testBit i = true
/-- m, with bits below e put in, becomes x -/
def SbE (e m x : Nat) : Prop := (∀ i, i < e → m.testBit i = true → x.testBit i = true) ∧ ∀ i, e ≤ i → m.testBit i = x.testBit i
theorem SbE_0 (m x : Nat) : SbE 0 m x ↔ m = x := ⟨fun h => Nat.eq_of_testBit_eq (fun i => h.2 i (by omega)), fun h => ⟨fun i hi => absurd hi (by omega), fun i _ => by rw [h]⟩⟩
theorem tb_big {m i : Nat} (h : m < 4096) (hi : 12 ≤ i) : m.testBit i = false := Nat.testBit_lt_two_pow (Nat.lt_of_lt_of_le h (Nat.pow_le_pow_right (n := 2) (by decide) hi))
theorem SbE_12 {m x : Nat} (hm : m < 4096) (hx : x < 4096) : SbE 12 m x ↔ Sb m x := by
  refine ⟨fun h i hi => ?_, fun h => ⟨fun i _ => h i, fun i hi => by rw [tb_big hm hi, tb_big hx hi]⟩⟩
  rcases Nat.lt_or_ge i 12 with c | c
  · exact h.1 i c hi
  · rw [← h.2 i c]; exact hi
theorem lt_of_tb {m : Nat} (h : ∀ i, 12 ≤ i → m.testBit i = false) : m < 4096 := by
  rcases Nat.lt_or_ge m (2 ^ 12) with c | c
  · exact c
  · obtain ⟨i, h1, h2⟩ := Nat.exists_ge_and_testBit_of_ge_two_pow c
    rw [h i h1] at h2; exact absurd h2 (by decide)
theorem add_lt {m e : Nat} (hm : m < 4096) (he : e < 12) (h : m.testBit e = false) : m + 2 ^ e < 4096 :=
  lt_of_tb (fun i hi => by rw [tb_add h, tb_big hm hi, decide_eq_false (by omega)]; rfl)
/-- one element more: below -/
theorem SbE_up {e m x : Nat} : SbE (e + 1) m x ↔ SbE e m x ∨ (m.testBit e = false ∧ SbE e (m + 2 ^ e) x) := by
  constructor
  · intro h
    cases hb : m.testBit e
    · cases hx : x.testBit e
      · refine Or.inl ⟨fun i hi => h.1 i (by omega), fun i hi => ?_⟩
        by_cases c : i = e
        · rw [c, hb, hx]
        · exact h.2 i (by omega)
      · refine Or.inr ⟨rfl, fun i hi hm => ?_, fun i hi => ?_⟩
        · rw [tb_add hb, decide_eq_false (by omega), Bool.or_false] at hm
          exact h.1 i (by omega) hm
        · rw [tb_add hb]
          by_cases c : i = e
          · rw [c, hx]; simp
          · rw [decide_eq_false c, Bool.or_false]; exact h.2 i (by omega)
    · refine Or.inl ⟨fun i hi => h.1 i (by omega), fun i hi => ?_⟩
      by_cases c : i = e
      · rw [c, hb]; exact (h.1 e (by omega) hb).symm
      · exact h.2 i (by omega)
  · rintro (h | ⟨hb, h⟩)
    · refine ⟨fun i hi hm => ?_, fun i hi => h.2 i (by omega)⟩
      by_cases c : i = e
      · rw [c] at hm ⊢; rw [← h.2 e (by omega)]; exact hm
      · exact h.1 i (by omega) hm
    · refine ⟨fun i hi hm => ?_, fun i hi => ?_⟩
      · by_cases c : i = e
        · rw [c, hb] at hm; exact absurd hm (by decide)
        · exact h.1 i (by omega) (by rw [tb_add hb, hm]; rfl)
      · rw [← h.2 i (by omega), tb_add hb, decide_eq_false (by omega), Bool.or_false]
/-- .. above -/
theorem SbE_dn {e m x : Nat} : SbE (e + 1) x m ↔ SbE e x m ∨ (m.testBit e = true ∧ SbE e x (m - 2 ^ e)) := by
  constructor
  · intro h
    cases hb : m.testBit e
    · refine Or.inl ⟨fun i hi => h.1 i (by omega), fun i hi => ?_⟩
      by_cases c : i = e
      · rw [c, hb]
        cases hx : x.testBit e
        · rfl
        · have := h.1 e (by omega) hx; rw [hb] at this; exact this.symm
      · exact h.2 i (by omega)
    · cases hx : x.testBit e
      · refine Or.inr ⟨rfl, fun i hi hm => ?_, fun i hi => ?_⟩
        · rw [(tb_sub hb).2, h.1 i (by omega) hm, decide_eq_false (by omega)]; rfl
        · rw [(tb_sub hb).2]
          by_cases c : i = e
          · rw [c, hx]; simp
          · rw [decide_eq_false c, h.2 i (by omega)]; simp
      · refine Or.inl ⟨fun i hi => h.1 i (by omega), fun i hi => ?_⟩
        by_cases c : i = e
        · rw [c, hb, hx]
        · exact h.2 i (by omega)
  · rintro (h | ⟨hb, h⟩)
    · refine ⟨fun i hi hm => ?_, fun i hi => h.2 i (by omega)⟩
      by_cases c : i = e
      · rw [c] at hm ⊢; rw [← h.2 e (by omega)]; exact hm
      · exact h.1 i (by omega) hm
    · have S := (tb_sub hb).2
      refine ⟨fun i hi hm => ?_, fun i hi => ?_⟩
      · by_cases c : i = e
        · rw [c]; exact hb
        · have := h.1 i (by omega) hm
          rw [S, decide_eq_false c] at this
          simpa using this
      · rw [h.2 i (by omega), S, decide_eq_false (by omega)]; simp
/-- some set of F above (or equal to) m -/
def Low (e : Nat) (F : Nat → Bool) (m : Nat) : Prop := ∃ x, x < 4096 ∧ F x = true ∧ SbE e m x
def Ris (e : Nat) (F : Nat → Bool) (m : Nat) : Prop := ∃ x, x < 4096 ∧ F x = true ∧ SbE e x m
theorem Low_0 {F : Nat → Bool} {m : Nat} (hm : m < 4096) : Low 0 F m ↔ F m = true := ⟨fun ⟨x, _, h, e⟩ => by rw [(SbE_0 m x).mp e]; exact h, fun h => ⟨m, hm, h, (SbE_0 m m).mpr rfl⟩⟩
theorem Ris_0 {F : Nat → Bool} {m : Nat} (hm : m < 4096) : Ris 0 F m ↔ F m = true := ⟨fun ⟨x, _, h, e⟩ => by rw [← (SbE_0 x m).mp e]; exact h, fun h => ⟨m, hm, h, (SbE_0 m m).mpr rfl⟩⟩
theorem Low_s {e : Nat} {F : Nat → Bool} {m : Nat} : Low (e + 1) F m ↔ Low e F m ∨ (m.testBit e = false ∧ Low e F (m + 2 ^ e)) := by
  constructor
  · rintro ⟨x, h1, h2, h3⟩
    rcases SbE_up.mp h3 with h | ⟨h, h'⟩
    · exact Or.inl ⟨x, h1, h2, h⟩
    · exact Or.inr ⟨h, x, h1, h2, h'⟩
  · rintro (⟨x, h1, h2, h⟩ | ⟨h, x, h1, h2, h'⟩)
    · exact ⟨x, h1, h2, SbE_up.mpr (Or.inl h)⟩
    · exact ⟨x, h1, h2, SbE_up.mpr (Or.inr ⟨h, h'⟩)⟩
theorem Ris_s {e : Nat} {F : Nat → Bool} {m : Nat} : Ris (e + 1) F m ↔ Ris e F m ∨ (m.testBit e = true ∧ Ris e F (m - 2 ^ e)) := by
  constructor
  · rintro ⟨x, h1, h2, h3⟩
    rcases SbE_dn.mp h3 with h | ⟨h, h'⟩
    · exact Or.inl ⟨x, h1, h2, h⟩
    · exact Or.inr ⟨h, x, h1, h2, h'⟩
  · rintro (⟨x, h1, h2, h⟩ | ⟨h, x, h1, h2, h'⟩)
    · exact ⟨x, h1, h2, SbE_dn.mpr (Or.inl h)⟩
    · exact ⟨x, h1, h2, SbE_dn.mpr (Or.inr ⟨h, h'⟩)⟩
def hasUp (F : Nat → Bool) (m : Nat) : Prop := ∃ x, x < 4096 ∧ F x = true ∧ Sb m x
def hasDn (F : Nat → Bool) (m : Nat) : Prop := ∃ x, x < 4096 ∧ F x = true ∧ Sb x m
theorem Low_12 {F : Nat → Bool} {m : Nat} (hm : m < 4096) : Low 12 F m ↔ hasUp F m := ⟨fun ⟨x, h1, h2, h⟩ => ⟨x, h1, h2, (SbE_12 hm h1).mp h⟩, fun ⟨x, h1, h2, h⟩ => ⟨x, h1, h2, (SbE_12 hm h1).mpr h⟩⟩
theorem Ris_12 {F : Nat → Bool} {m : Nat} (hm : m < 4096) : Ris 12 F m ↔ hasDn F m := ⟨fun ⟨x, h1, h2, h⟩ => ⟨x, h1, h2, (SbE_12 h1 hm).mp h⟩, fun ⟨x, h1, h2, h⟩ => ⟨x, h1, h2, (SbE_12 h1 hm).mpr h⟩⟩
theorem lower_R {Γ : Gm} {d : Nat} {σ : AH} {a n : Nat} (ha : hs σ a = some (23, n)) (hn : 64 ≤ n) (hd : 1 ≤ d) : RV Γ d MX7_lower [.ref a] σ (fun σ' => ∃ f, σ' = rowJ σ a f ∧ ∀ m, m < 4096 → (bs f m = true ↔ hasUp (bs (gj σ a)) m)) := by
  generalize hA : gj σ a = A
  refine eX7_lower ?_
  have L : ∀ e, e ≤ 12 → ∀ f, (∀ m, m < 4096 → (bs f m = true ↔ Low e (bs A) m)) → EV Γ MX7_lower d 2 [some (.ref a), some (.int (nI e))] [] (rowJ σ a f) (fun o σ' => o = .inl none ∧ ∃ f, σ' = rowJ σ a f ∧ ∀ m, m < 4096 → (bs f m = true ↔ hasUp (bs A) m)) := by
    refine upto 12 ?_ (fun e he ih => ?_)
    · intro f hf
      exact gX7_lower_2 ⟨fun _ => ⟨rfl, f, rfl, fun m hm => by rw [hf m hm, Low_12 hm]⟩, fun c => absurd ((c12le (by omega)).mpr (by omega)) c⟩
    · intro f hf
      refine gX7_lower_2 ⟨fun c => absurd ((c12le (by omega)).mp c) (by omega), fun _ => ?_⟩
      refine CV.of (d2 := 0) (takeOut_R (σ := rowJ σ a f) ha ha hn hn he) (by omega) (fun σ1 hw hp => ?_)
      rw [hp, gj_row, rowJ_rowJ, nI_1]
      refine ih _ (fun m hm => ?_)
      rw [bs_fl hm, bs_toF he f f hm, Low_s, Bool.or_eq_true, Bool.and_eq_true, hf m hm, Bool.not_eq_true']
      refine or_congr Iff.rfl (and_congr_right (fun hb => ?_))
      exact hf _ (add_lt hm he hb)
  have := L 0 (by omega) A (fun m hm => (Low_0 hm).symm)
  rw [← hA, rowJ_self] at this
  rw [← hA]
  exact this
theorem raise_R {Γ : Gm} {d : Nat} {σ : AH} {a n : Nat} (ha : hs σ a = some (23, n)) (hn : 64 ≤ n) (hd : 1 ≤ d) : RV Γ d MX7_raise [.ref a] σ (fun σ' => ∃ f, σ' = rowJ σ a f ∧ ∀ m, m < 4096 → (bs f m = true ↔ hasDn (bs (gj σ a)) m)) := by
  generalize hA : gj σ a = A
  refine eX7_raise ?_
  have L : ∀ e, e ≤ 12 → ∀ f, (∀ m, m < 4096 → (bs f m = true ↔ Ris e (bs A) m)) → EV Γ MX7_raise d 2 [some (.ref a), some (.int (nI e))] [] (rowJ σ a f) (fun o σ' => o = .inl none ∧ ∃ f, σ' = rowJ σ a f ∧ ∀ m, m < 4096 → (bs f m = true ↔ hasDn (bs A) m)) := by
    refine upto 12 ?_ (fun e he ih => ?_)
    · intro f hf
      exact gX7_raise_2 ⟨fun _ => ⟨rfl, f, rfl, fun m hm => by rw [hf m hm, Ris_12 hm]⟩, fun c => absurd ((c12le (by omega)).mpr (by omega)) c⟩
    · intro f hf
      refine gX7_raise_2 ⟨fun c => absurd ((c12le (by omega)).mp c) (by omega), fun _ => ?_⟩
      refine CV.of (d2 := 0) (putIn_R (σ := rowJ σ a f) ha ha hn hn he) (by omega) (fun σ1 hw hp => ?_)
      rw [hp, gj_row, rowJ_rowJ, nI_1]
      refine ih _ (fun m hm => ?_)
      rw [bs_fl hm, bs_piF he f f hm, Ris_s, Bool.or_eq_true, Bool.and_eq_true, hf m hm]
      refine or_congr Iff.rfl (and_congr_right (fun hb => ?_))
      exact hf _ (Nat.lt_of_le_of_lt (Nat.sub_le _ _) hm)
  have := L 0 (by omega) A (fun m hm => (Ris_0 hm).symm)
  rw [← hA, rowJ_self] at this
  rw [← hA]
  exact this

