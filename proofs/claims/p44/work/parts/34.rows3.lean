/-! ROWS of Rows: takeOut, putIn, swap, lower, raise. -/
theorem el_sh : ∀ e, e < 6 → ((Int32.toInt64 ((1 : Int32) <<< (nI e &&& 31))).toUInt64 &&& Int64.toUInt64 63) = UInt64.ofNat (2 ^ e) ∧ (Int32.toInt64 ((1 : Int32) <<< (nI e &&& 31)) &&& 63) = lN (2 ^ e) ∧ 2 ^ e < 64 := by decide +kernel
theorem el_up : ∀ e, e < 12 → 6 ≤ e → ((1 : Int32) <<< ((nI e - 6) &&& 31)) = nI (2 ^ (e - 6)) := by decide +kernel
theorem el_wth : ∀ e, e < 6 → ∀ i, i < 64 → wb (withV e) i = i.testBit e := by decide +kernel
theorem el_add1 : ∀ e, e < 6 → ∀ i, i < 64 → i.testBit e = false → i + 2 ^ e < 64 ∧ (i + 2 ^ e).testBit e = true := by decide +kernel
theorem el_add2 : ∀ e, e < 6 → ∀ i, i < 64 → i.testBit e = true → 64 ≤ i + 2 ^ e ∨ (i + 2 ^ e).testBit e = false := by decide +kernel
theorem el_add3 : ∀ e, e < 6 → ∀ i, i < 64 → i.testBit e = true → 2 ^ e ≤ i ∧ (i - 2 ^ e).testBit e = false := by decide +kernel
theorem el_add4 : ∀ e, e < 6 → ∀ i, i < 64 → i.testBit e = false → i < 2 ^ e ∨ (i - 2 ^ e).testBit e = true := by decide +kernel
theorem up_add : ∀ s, s < 6 → ∀ w, w < 64 → (w.testBit s = false → w + 2 ^ s < 64 ∧ (w + 2 ^ s).testBit s = true) ∧ (w.testBit s = true → 2 ^ s ≤ w ∧ (w - 2 ^ s).testBit s = false) ∧ (nI w &&& nI (2 ^ s) = 0 ↔ w.testBit s = false) := by decide +kernel
theorem tb_low {m e : Nat} (he : e < 6) : m.testBit e = (m % 64).testBit e := by
  rw [show (64 : Nat) = 2 ^ 6 from rfl, Nat.testBit_mod_two_pow, decide_eq_true he, Bool.true_and]
theorem tb_high {m e : Nat} (he : 6 ≤ e) : m.testBit e = (m / 64).testBit (e - 6) := by
  rw [show (64 : Nat) = 2 ^ 6 from rfl, Nat.testBit_div_two_pow, show e - 6 + 6 = e by omega]
theorem pw64 {e : Nat} (he : 6 ≤ e) : 2 ^ e = 64 * 2 ^ (e - 6) := by
  rw [show (64 : Nat) = 2 ^ 6 from rfl, ← Nat.pow_add]; congr 1; omega
theorem tb_add {m e : Nat} (h : m.testBit e = false) (i : Nat) : (m + 2 ^ e).testBit i = (m.testBit i || decide (i = e)) := by
  have hp := Nat.two_pow_pos e
  have hr := Nat.mod_lt m (show 0 < 2 ^ (e + 1) from Nat.two_pow_pos _)
  have hm := Nat.div_add_mod m (2 ^ (e + 1))
  have hlt : m % 2 ^ (e + 1) < 2 ^ e := by
    rcases Nat.lt_or_ge (m % 2 ^ (e + 1)) (2 ^ e) with g | g
    · exact g
    · exfalso
      have : (m % 2 ^ (e + 1)).testBit e = true := by
        rw [Nat.testBit_eq_decide_div_mod_eq]
        have : m % 2 ^ (e + 1) / 2 ^ e = 1 := by
          apply Nat.div_eq_of_lt_le
          · omega
          · rw [Nat.pow_succ] at hr; omega
        rw [this]; rfl
      rw [Nat.testBit_mod_two_pow, h] at this
      simp at this
  generalize m % 2 ^ (e + 1) = r at hm hlt
  generalize m / 2 ^ (e + 1) = q at hm
  subst hm
  have hp2 : 2 ^ (e + 1) = 2 ^ e + 2 ^ e := by rw [Nat.pow_succ]; omega
  rw [show 2 ^ (e + 1) * q + r + 2 ^ e = 2 ^ (e + 1) * q + (2 ^ e + r) by omega, Nat.testBit_two_pow_mul_add _ (by omega), Nat.testBit_two_pow_mul_add _ (by omega)]
  rcases Nat.lt_trichotomy i e with z | z | z
  · rw [if_pos (by omega), if_pos (by omega), Nat.testBit_two_pow_add_gt z, decide_eq_false (by omega), Bool.or_false]
  · subst z; rw [if_pos (by omega), if_pos (by omega), Nat.testBit_two_pow_add_eq, Nat.testBit_lt_two_pow hlt]; simp
  · rw [if_neg (by omega), if_neg (by omega), decide_eq_false (by omega), Bool.or_false]
theorem tb_sub {m e : Nat} (h : m.testBit e = true) : 2 ^ e ≤ m ∧ ∀ i, (m - 2 ^ e).testBit i = (m.testBit i && !decide (i = e)) := by
  have hle : 2 ^ e ≤ m := by
    rcases Nat.lt_or_ge m (2 ^ e) with g | g
    · rw [Nat.testBit_lt_two_pow g] at h; exact absurd h (by decide)
    · exact g
  refine ⟨hle, ?_⟩
  have hp := Nat.two_pow_pos e
  have hr := Nat.mod_lt m (show 0 < 2 ^ (e + 1) from Nat.two_pow_pos _)
  have hm := Nat.div_add_mod m (2 ^ (e + 1))
  have hge : 2 ^ e ≤ m % 2 ^ (e + 1) := by
    rcases Nat.lt_or_ge (m % 2 ^ (e + 1)) (2 ^ e) with g | g
    · exfalso
      have : (m % 2 ^ (e + 1)).testBit e = false := Nat.testBit_lt_two_pow g
      rw [Nat.testBit_mod_two_pow, h] at this
      simp at this
    · exact g
  have hn : (m - 2 ^ e).testBit e = false := by
    have e1 : m - 2 ^ e = 2 ^ (e + 1) * (m / 2 ^ (e + 1)) + (m % 2 ^ (e + 1) - 2 ^ e) := by omega
    rw [Nat.pow_succ] at hr
    rw [e1, Nat.testBit_two_pow_mul_add _ (by rw [Nat.pow_succ]; omega), if_pos (by omega)]
    exact Nat.testBit_lt_two_pow (by rw [Nat.pow_succ]; omega)
  intro i
  have := tb_add hn i
  rw [show m - 2 ^ e + 2 ^ e = m by omega] at this
  rw [this]
  by_cases c : i = e
  · subst c; rw [hn]; simp
  · simp [c]
def toF (e : Nat) (A B : Nat → Int64) (w : Nat) : Int64 := if e < 6 then B w ||| ((A w &&& withV e).toUInt64 >>> UInt64.ofNat (2 ^ e)).toInt64 else if w.testBit (e - 6) then B w else B w ||| A (w + 2 ^ (e - 6))
theorem bs_toF {e : Nat} (he : e < 12) (A B : Nat → Int64) {m : Nat} (hm : m < 4096) : bs (toF e A B) m = (bs B m || (!m.testBit e && bs A (m + 2 ^ e))) := by
  have h64 := Nat.mod_lt m (show 0 < 64 by decide)
  unfold toF
  rcases Nat.lt_or_ge e 6 with c | c
  · have hp := Nat.two_pow_pos e
    simp only [if_pos c]
    unfold bs
    rw [w_or, w_shr _ (2 ^ e) (el_sh e c).2.2 rfl, w_and, tb_low c]
    congr 1
    cases hb : (m % 64).testBit e
    · obtain ⟨p1, p2⟩ := el_add1 e c _ h64 hb
      rw [Nat.add_comm, el_wth e c _ p1, p2, show (m + 2 ^ e) / 64 = m / 64 by omega, show (m + 2 ^ e) % 64 = m % 64 + 2 ^ e by omega]
      simp
    · rcases el_add2 e c _ h64 hb with q | q
      · rw [wb_ge _ (by omega)]; rfl
      · rcases Nat.lt_or_ge (2 ^ e + m % 64) 64 with g | g
        · rw [el_wth e c _ g, Nat.add_comm, q]; simp
        · rw [wb_ge _ g]; rfl
  · simp only [if_neg (show ¬ e < 6 by omega)]
    unfold bs
    rw [tb_high c, pw64 c]
    cases hb : (m / 64).testBit (e - 6)
    · have hp := Nat.two_pow_pos (e - 6)
      dsimp only
      rw [hb, if_neg (by decide), w_or, show (m + 64 * 2 ^ (e - 6)) / 64 = m / 64 + 2 ^ (e - 6) by omega, show (m + 64 * 2 ^ (e - 6)) % 64 = m % 64 by omega]
      simp
    · dsimp only
      rw [hb, if_pos rfl]; simp
theorem takeOut_R {Γ : Gm} {d : Nat} {σ : AH} {a b n m e : Nat} (ha : hs σ a = some (23, n)) (hb : hs σ b = some (23, m)) (hn : 64 ≤ n) (hm : 64 ≤ m) (he : e < 12) : RV Γ d MX7_takeOut [.ref a, .ref b, .int (nI e)] σ (fun σ' => σ' = rowJ σ b (fl (toF e (gj σ a) (gj σ b)) (gj σ b) 64)) := by
  refine RUN.wf (fun W => ?_)
  have hwb : wth Γ ≠ b := fun z => by have := W.2.1; rw [z, hb] at this; simp at this
  generalize hA : gj σ a = A
  generalize hB : gj σ b = B
  have gA : ∀ k f, a ≠ b ∨ (∀ i, k ≤ i → f i = B i) → ∀ i, k ≤ i → gj (rowJ σ b f) a i = A i := by
    intro k f h i hi
    by_cases c : a = b
    · subst c
      rw [gj_row]
      rcases h with h | h
      · exact absurd rfl h
      · rw [h i hi, ← hB, hA]
    · rw [gj_rown _ _ c, hA]
  have hi6 : (6 : Int32) ≤ nI e ↔ 6 ≤ e := nI_leI (by decide) (by omega)
  refine eX7_takeOut ⟨fun c => ?_, fun c => ⟨fun c2 => absurd c2 (nn0 (by omega)), fun _ => ?_⟩⟩
  · have c6 := hi6.mp c
    refine gX7_takeOut_44 ?_
    rw [el_up e he c6]
    have hs6 : e - 6 < 6 := by omega
    have hp : 2 ^ (e - 6) < 2 ^ 6 := Nat.pow_lt_pow_right (by decide) hs6
    have hp0 := Nat.two_pow_pos (e - 6)
    have F : ∀ w, toF e A B w = if w.testBit (e - 6) then B w else B w ||| A (w + 2 ^ (e - 6)) := fun w => if_neg (by omega)
    have L : ∀ k, k ≤ 64 - 2 ^ (e - 6) → EV Γ MX7_takeOut d 54 [some (.ref a), some (.ref b), none, some (.int (nI (2 ^ (e - 6)))), some (.int (nI k))] [] (rowJ σ b (fl (toF e A B) B k)) (fun o σ' => o = .inl none ∧ σ' = rowJ σ b (fl (toF e A B) B 64)) := by
      refine upto (64 - 2 ^ (e - 6)) ?_ (fun k hk ih => ?_)
      · refine gX7_takeOut_54 ⟨fun _ => ⟨rfl, ?_⟩, fun c => absurd (by rw [nI_add]; exact (c64le (by omega)).mpr (by omega)) c⟩
        congr 1
        funext w
        unfold fl
        by_cases c1 : w < 64 - 2 ^ (e - 6)
        · rw [if_pos c1, if_pos (by omega)]
        · rw [if_neg c1]
          by_cases c2 : w < 64
          · rw [if_pos c2, F]
            have P := up_add (e - 6) hs6 w c2
            cases hb2 : w.testBit (e - 6)
            · exact absurd (P.1 hb2).1 (by omega)
            · rfl
          · rw [if_neg c2]
      · have P := up_add (e - 6) hs6 k (by omega)
        refine gX7_takeOut_54 ⟨fun c => absurd (by rw [nI_add] at c; exact (c64le (by omega)).mp c) (by omega), fun _ => ⟨fun c => ?_, fun c => ?_⟩⟩
        · have hb2 : k.testBit (e - 6) = true := ts_nf (fun z => c (P.2.2.mpr z))
          rw [nI_1]
          have : fl (toF e A B) B k = fl (toF e A B) B (k + 1) := by
            rw [← fl_succ, F, hb2, if_pos rfl]
            have : B k = fl (toF e A B) B k k := (fl_out (Nat.le_refl k)).symm
            rw [this, up_self]
          rw [this]; exact ih
        · have hb2 := P.2.2.mp c
          refine ⟨m, hb, k, IXn (by omega) (by omega), n, ha, k + 2 ^ (e - 6), by rw [nI_add]; exact IXn (by omega) (by omega), fun σ11 h11 => ?_⟩
          rw [gA k _ (Or.inr (fun i hi => fl_out hi)) _ (by omega), gj_row, fl_out (Nat.le_refl k), fillJ _ _ _ _ _ _ (by rw [F, hb2]; rfl)] at h11
          rw [h11, nI_1]; exact ih
    have := L 0 (by omega)
    rw [fl_0, ← hB, rowJ_self] at this
    rw [← hB]
    exact this
  · have c6 : e < 6 := by
      rcases Nat.lt_or_ge e 6 with g | g
      · exact g
      · exact absurd (hi6.mpr g) c
    have F : ∀ w, toF e A B w = B w ||| ((A w &&& withV e).toUInt64 >>> UInt64.ofNat (2 ^ e)).toInt64 := fun w => if_pos c6
    have L : ∀ k, k ≤ 64 → EV Γ MX7_takeOut d 12 [some (.ref a), some (.ref b), some (.int (nI e)), some (.int (nI k)), none] [] (rowJ σ b (fl (toF e A B) B k)) (fun o σ' => o = .inl none ∧ σ' = rowJ σ b (fl (toF e A B) B 64)) := by
      refine upto 64 ?_ (fun k hk ih => ?_)
      · exact gX7_takeOut_12 ⟨fun _ => ⟨rfl, rfl⟩, fun c => absurd ((c64le (by omega)).mpr (by omega)) c⟩
      · refine gX7_takeOut_12 ⟨fun c => absurd ((c64le (by omega)).mp c) (by omega), fun _ => ⟨m, hb, k, IXn (by omega) (by omega), n, ha, k, IXn (by omega) (by omega), 6, W.2.1, e, IXn c6 (by omega), fun σ14 h14 => ?_⟩⟩
        rw [gA k _ (Or.inr (fun i hi => fl_out hi)) _ (by omega), gj_row, fl_out (Nat.le_refl k), gj_rown _ _ hwb, W.2.2.1 e c6, (el_sh e c6).1, fillJ _ _ _ _ _ _ (F k).symm] at h14
        rw [h14, nI_1]; exact ih
    have := L 0 (by omega)
    rw [fl_0, ← hB, rowJ_self] at this
    rw [← hB]
    exact this
def piF (e : Nat) (A B : Nat → Int64) (w : Nat) : Int64 := if e < 6 then B w ||| ((A w &&& (withV e ^^^ (-1))) <<< lN (2 ^ e)) else if w.testBit (e - 6) then B w ||| A (w - 2 ^ (e - 6)) else B w
theorem bs_piF {e : Nat} (he : e < 12) (A B : Nat → Int64) {m : Nat} (hm : m < 4096) : bs (piF e A B) m = (bs B m || (m.testBit e && bs A (m - 2 ^ e))) := by
  have h64 := Nat.mod_lt m (show 0 < 64 by decide)
  unfold piF
  rcases Nat.lt_or_ge e 6 with c | c
  · have hp := Nat.two_pow_pos e
    simp only [if_pos c]
    unfold bs
    rw [w_or, w_shl _ (2 ^ e) (el_sh e c).2.2 rfl h64, w_and, tb_low c]
    congr 1
    cases hb : (m % 64).testBit e
    · rcases el_add4 e c _ h64 hb with q | q
      · rw [decide_eq_false (by omega)]; rfl
      · rw [w_not _ (by omega), el_wth e c _ (by omega), q]; simp
    · obtain ⟨p1, p2⟩ := el_add3 e c _ h64 hb
      rw [w_not _ (by omega), el_wth e c _ (by omega), p2, decide_eq_true p1, show (m - 2 ^ e) / 64 = m / 64 by omega, show (m - 2 ^ e) % 64 = m % 64 - 2 ^ e by omega]
      simp
  · simp only [if_neg (show ¬ e < 6 by omega)]
    unfold bs
    rw [tb_high c, pw64 c]
    have hp := Nat.two_pow_pos (e - 6)
    cases hb : (m / 64).testBit (e - 6)
    · dsimp only
      rw [hb, if_neg (by decide)]; simp
    · have hle := (tb_sub hb).1
      dsimp only
      rw [hb, if_pos rfl, w_or, show (m - 64 * 2 ^ (e - 6)) / 64 = m / 64 - 2 ^ (e - 6) by omega, show (m - 64 * 2 ^ (e - 6)) % 64 = m % 64 by omega]
      simp
theorem putIn_R {Γ : Gm} {d : Nat} {σ : AH} {a b n m e : Nat} (ha : hs σ a = some (23, n)) (hb : hs σ b = some (23, m)) (hn : 64 ≤ n) (hm : 64 ≤ m) (he : e < 12) : RV Γ d MX7_putIn [.ref a, .ref b, .int (nI e)] σ (fun σ' => σ' = rowJ σ b (fl (piF e (gj σ a) (gj σ b)) (gj σ b) 64)) := by
  refine RUN.wf (fun W => ?_)
  have hwb : wth Γ ≠ b := fun z => by have := W.2.1; rw [z, hb] at this; simp at this
  generalize hA : gj σ a = A
  generalize hB : gj σ b = B
  have gA : ∀ i f, (a = b → f i = B i) → gj (rowJ σ b f) a i = A i := by
    intro i f h
    by_cases c : a = b
    · subst c
      rw [gj_row, h rfl, ← hB, hA]
    · rw [gj_rown _ _ c, hA]
  have hi6 : (6 : Int32) ≤ nI e ↔ 6 ≤ e := nI_leI (by decide) (by omega)
  refine eX7_putIn ⟨fun c => ?_, fun c => ⟨fun c2 => absurd c2 (nn0 (by omega)), fun _ => ?_⟩⟩
  · have c6 := hi6.mp c
    refine gX7_putIn_48 ?_
    rw [el_up e he c6]
    have hs6 : e - 6 < 6 := by omega
    have hp : 2 ^ (e - 6) < 2 ^ 6 := Nat.pow_lt_pow_right (by decide) hs6
    have hp0 := Nat.two_pow_pos (e - 6)
    have F : ∀ w, piF e A B w = if w.testBit (e - 6) then B w ||| A (w - 2 ^ (e - 6)) else B w := fun w => if_neg (by omega)
    have L : ∀ k, k ≤ 64 - 2 ^ (e - 6) → EV Γ MX7_putIn d 58 [some (.ref a), some (.ref b), none, some (.int (nI (2 ^ (e - 6)))), some (.int (nI k))] [] (rowJ σ b (fl (piF e A B) B (k + 2 ^ (e - 6)))) (fun o σ' => o = .inl none ∧ σ' = rowJ σ b (fl (piF e A B) B 64)) := by
      refine upto (64 - 2 ^ (e - 6)) ?_ (fun k hk ih => ?_)
      · refine gX7_putIn_58 ⟨fun _ => ⟨rfl, ?_⟩, fun c => absurd (by rw [nI_add]; exact (c64le (by omega)).mpr (by omega)) c⟩
        rw [show 64 - 2 ^ (e - 6) + 2 ^ (e - 6) = 64 by omega]
      · have P := up_add (e - 6) hs6 k (by omega)
        refine gX7_putIn_58 ⟨fun c => absurd (by rw [nI_add] at c; exact (c64le (by omega)).mp c) (by omega), fun _ => ⟨fun c => ?_, fun c => ?_⟩⟩
        · have hb2 : k.testBit (e - 6) = true := ts_nf (fun z => c (P.2.2.mpr z))
          have hb3 : (k + 2 ^ (e - 6)).testBit (e - 6) = false := by
            rw [Nat.add_comm, Nat.testBit_two_pow_add_eq, hb2]; rfl
          rw [nI_1]
          have : fl (piF e A B) B (k + 2 ^ (e - 6)) = fl (piF e A B) B (k + 1 + 2 ^ (e - 6)) := by
            rw [show k + 1 + 2 ^ (e - 6) = k + 2 ^ (e - 6) + 1 by omega, ← fl_succ, F, hb3, if_neg (by decide)]
            have : B (k + 2 ^ (e - 6)) = fl (piF e A B) B (k + 2 ^ (e - 6)) (k + 2 ^ (e - 6)) := (fl_out (Nat.le_refl _)).symm
            rw [this, up_self]
          rw [this]; exact ih
        · have hb2 := P.2.2.mp c
          have hb3 := (P.1 hb2).2
          refine ⟨m, hb, k + 2 ^ (e - 6), by rw [nI_add]; exact IXn (by omega) (by omega), n, ha, k, IXn (by omega) (by omega), fun σ11 h11 => ?_⟩
          rw [gA k _ (fun _ => by rw [fl_in (by omega), F, hb2]; rfl), gj_row, fl_out (Nat.le_refl _), fillJ _ _ _ _ _ _ (by rw [F, hb3, if_pos rfl, Nat.add_sub_cancel])] at h11
          rw [h11, nI_1, show k + 2 ^ (e - 6) + 1 = k + 1 + 2 ^ (e - 6) by omega]; exact ih
    have := L 0 (by omega)
    have z : fl (piF e A B) B (0 + 2 ^ (e - 6)) = B := by
      funext w
      unfold fl
      by_cases c : w < 0 + 2 ^ (e - 6)
      · rw [if_pos c, F]
        have : w.testBit (e - 6) = false := Nat.testBit_lt_two_pow (by omega)
        rw [this]; rfl
      · rw [if_neg c]
    rw [z, ← hB, rowJ_self] at this
    rw [← hB]
    exact this
  · have c6 : e < 6 := by
      rcases Nat.lt_or_ge e 6 with g | g
      · exact g
      · exact absurd (hi6.mpr g) c
    have F : ∀ w, piF e A B w = B w ||| ((A w &&& (withV e ^^^ (-1))) <<< lN (2 ^ e)) := fun w => if_pos c6
    have L : ∀ k, k ≤ 64 → EV Γ MX7_putIn d 12 [some (.ref a), some (.ref b), some (.int (nI e)), some (.int (nI k)), none] [] (rowJ σ b (fl (piF e A B) B k)) (fun o σ' => o = .inl none ∧ σ' = rowJ σ b (fl (piF e A B) B 64)) := by
      refine upto 64 ?_ (fun k hk ih => ?_)
      · exact gX7_putIn_12 ⟨fun _ => ⟨rfl, rfl⟩, fun c => absurd ((c64le (by omega)).mpr (by omega)) c⟩
      · refine gX7_putIn_12 ⟨fun c => absurd ((c64le (by omega)).mp c) (by omega), fun _ => ⟨m, hb, k, IXn (by omega) (by omega), n, ha, k, IXn (by omega) (by omega), 6, W.2.1, e, IXn c6 (by omega), fun σ14 h14 => ?_⟩⟩
        rw [gA k _ (fun _ => fl_out (Nat.le_refl k)), gj_row, fl_out (Nat.le_refl k), gj_rown _ _ hwb, W.2.2.1 e c6, (el_sh e c6).2.1, fillJ _ _ _ _ _ _ (F k).symm] at h14
        rw [h14, nI_1]; exact ih
    have := L 0 (by omega)
    rw [fl_0, ← hB, rowJ_self] at this
    rw [← hB]
    exact this

