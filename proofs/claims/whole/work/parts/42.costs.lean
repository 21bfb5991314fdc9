/-! ROWS of Costs and Heap. -/
theorem n_shr {m d : Nat} {D : Int32} (hD : (D.toBitVec.smod 32).toNat = d) (h : m < 2 ^ 31) : nI m >>> D = nI (m / 2 ^ d) := by
  have hd : m / 2 ^ d ≤ m := Nat.div_le_self _ _
  apply Int32.toInt_inj.mp
  have e : (nI m >>> D).toInt = (nI m).toInt >>> d := by
    rw [← hD]
    exact BitVec.toInt_sshiftRight ..
  rw [e, Int.shiftRight_eq_div_pow, nI_toInt h, nI_toInt (by omega)]
  rfl
theorem n_shrm {m e : Nat} (he : e < 32) (h : m < 2 ^ 31) : nI m >>> (nI e &&& 31) = nI (m / 2 ^ e) := n_shr (s_l e he) h
theorem n_and1 (k : Nat) : nI k &&& 1 = nI (k % 2) := fa_mask k 1
theorem n_bit {m e : Nat} (he : e < 32) (h : m < 2 ^ 31) : (nI m >>> (nI e &&& 31)) &&& 1 = b2i (m.testBit e) := by
  rw [n_shrm he h, n_and1, Nat.testBit_eq_decide_div_mod_eq]
  have := Nat.mod_lt (m / 2 ^ e) (show 0 < 2 by decide)
  generalize m / 2 ^ e % 2 = z at this
  match z, this with
  | 0, _ => rfl
  | 1, _ => rfl
theorem b2i_0 (b : Bool) : b2i b = 0 ↔ b = false := by cases b <;> decide
/-- the sum of the costs of the elements below n -/
def csum (c : Nat → Int32) : Nat → Nat → Int32
  | 0, _ => 0
  | n + 1, m => csum c n m + (if m.testBit n then c n else 0)
theorem csum_add (c : Nat → Int32) (k m : Nat) : ∀ n, csum c (k + n) m = csum c k m + csum (fun j => c (k + j)) n (m / 2 ^ k) := by
  intro n
  induction n with
  | zero => exact (Int32.add_zero _).symm
  | succ n ih =>
    show csum c (k + n) m + _ = csum c k m + (csum (fun j => c (k + j)) n (m / 2 ^ k) + _)
    rw [ih, Int32.add_assoc, Nat.testBit_div_two_pow, Nat.add_comm n k]
    rfl
theorem csum_mod (c : Nat → Int32) (m : Nat) : ∀ n k, n ≤ k → csum c n (m % 2 ^ k) = csum c n m := by
  intro n
  induction n with
  | zero => intro k _; rfl
  | succ n ih =>
    intro k h
    show csum c n (m % 2 ^ k) + _ = csum c n m + _
    rw [ih k (by omega), Nat.testBit_mod_two_pow, decide_eq_true (by omega), Bool.true_and]
theorem csum_12 (c : Nat → Int32) (m : Nat) : csum c 12 m = csum c 6 (m % 64) + csum (fun j => c (6 + j)) 6 (m / 64) := by
  rw [show (12 : Nat) = 6 + 6 from rfl, csum_add, ← csum_mod c m 6 6 (Nat.le_refl _)]
theorem csum_up (c : Nat → Int32) (e : Nat) (v : Int32) (m : Nat) : ∀ n, csum (up c e v) n m = csum c n m + (if e < n ∧ m.testBit e = true then v - c e else 0) := by
  intro n
  induction n with
  | zero => rw [if_neg (by omega)]; exact (Int32.add_zero _).symm
  | succ n ih =>
    show csum (up c e v) n m + _ = (csum c n m + _) + _
    rw [ih]
    by_cases h : e = n
    · subst h
      rw [if_neg (by omega), up_same]
      cases hb : m.testBit e
      · rw [if_neg (by decide), if_neg (by decide), if_neg (by simp)]
      · rw [if_pos rfl, if_pos rfl, if_pos ⟨by omega, rfl⟩, Int32.add_zero, Int32.add_assoc]
        congr 1
        rw [Int32.sub_eq_add_neg, Int32.add_comm v, ← Int32.add_assoc, Int32.add_right_neg, Int32.zero_add]
    · rw [up_ne _ _ (fun z => h z.symm), Int32.add_assoc, Int32.add_assoc, Int32.add_comm (ite _ _ _)]
      congr 2
      by_cases q : e < n ∧ m.testBit e = true
      · rw [if_pos q, if_pos ⟨by omega, q.2⟩]
      · rw [if_neg q, if_neg (fun z => q ⟨by omega, z.2⟩)]
def CostOK (σ : AH) (co ea lw upp : Nat) (c : Nat → Int32) : Prop := hs σ co = some (2, 3) ∧ gr σ co 0 = some ea ∧ gr σ co 1 = some lw ∧ gr σ co 2 = some upp ∧ hs σ ea = some (22, 12) ∧ hs σ lw = some (22, 64) ∧ hs σ upp = some (22, 64) ∧ ea ≠ lw ∧ ea ≠ upp ∧ lw ≠ upp ∧ (∀ e, e < 12 → gi σ ea e = c e) ∧ (∀ m, m < 64 → gi σ lw m = csum c 6 m) ∧ (∀ m, m < 64 → gi σ upp m = csum (fun j => c (6 + j)) 6 m)
theorem of_R {Γ : Gm} {d : Nat} {σ : AH} {co ea lw upp m : Nat} {c : Nat → Int32} (C : CostOK σ co ea lw upp c) (hm : m < 4096) : RI Γ d MX2_of [.ref co, .int (nI m)] σ (fun r σ' => σ' = σ ∧ r = csum c 12 m) := by
  obtain ⟨h0, h1, h2, h3, h4, h5, h6, n1, n2, n3, h7, h8, h9⟩ := C
  have e1 : nI m &&& 63 = nI (m % 64) := fa_mask m 6
  have e2 : (nI m >>> 6) &&& 63 = nI (m / 64) := by
    rw [n_shr (d := 6) (by decide) (by omega)]
    exact (fa_mask _ 6).trans (by congr 1; omega)
  refine eX2_of ⟨h0, lw, h2, 64, h5, m % 64, by rw [e1]; exact IXn (by omega) (by omega), upp, h3, 64, h6, m / 64, by rw [e2]; exact IXn (by omega) (by omega), _, rfl, rfl, ?_⟩
  rw [h8 _ (by omega), h9 _ (by omega), csum_12]
theorem rank_R {Γ : Gm} {d : Nat} {σ : AH} {co ea lw upp m : Nat} {c : Nat → Int32} (C : CostOK σ co ea lw upp c) (hm : m < 4096) (hd : 1 ≤ d) : RI Γ d MX2_rank [.ref co, .int (nI m)] σ (fun r σ' => σ' = σ ∧ r = (csum c 12 m + 12000) * 4096 + nI m) := by
  refine eX2_rank ⟨C.1, ?_⟩
  refine CI.of (d2 := 0) (of_R C hm) (by omega) (fun r σ1 hw h => ?_)
  obtain ⟨rfl, rfl⟩ := h
  exact ⟨_, rfl, rfl, rfl⟩
theorem replace_R {Γ : Gm} {d : Nat} {σ : AH} {co ea lw upp e : Nat} {v : Int32} {c : Nat → Int32} (C : CostOK σ co ea lw upp c) (he : e < 12) : RI Γ d MX2_replace [.ref co, .int (nI e), .int v] σ (fun r σ' => r = c e ∧ Chg (fun a => a = ea ∨ a = lw ∨ a = upp) (fun _ => False) σ σ' ∧ CostOK σ' co ea lw upp (up c e v)) := by
  obtain ⟨h0, h1, h2, h3, h4, h5, h6, n1, n2, n3, h7, h8, h9⟩ := C
  have loop : ∀ (hf : Nat) (j : Nat) (g : Nat → Int32) (σ0 : AH), j < 6 → nI e - nI e / 6 * 6 = nI j → hs σ0 hf = some (22, 64) → ∀ k, k ≤ 64 → EV Γ MX2_replace d 48 [none, some (.int (nI e)), some (.int v), some (.int (c e)), some (.ref hf), some (.int (nI k))] [] (rowI σ0 hf (fl (fun m => if m.testBit j then g m + (v - c e) else g m) g k)) (fun o σ' => ∃ r : Int32, o = .inl (some (.int r)) ∧ r = c e ∧ σ' = rowI σ0 hf (fl (fun m => if m.testBit j then g m + (v - c e) else g m) g 64)) := by
    intro hf j g σ0 hj ej hh
    refine upto 64 ?_ (fun k hk ih => ?_)
    · exact gX2_replace_48 ⟨fun _ => ⟨_, rfl, rfl, rfl⟩, fun z => absurd ((c64le (by omega)).mpr (by omega)) z⟩
    · refine gX2_replace_48 ⟨fun z => absurd ((c64le (by omega)).mp z) (by omega), fun _ => ?_⟩
      rw [ej, n_bit (by omega) (by omega), b2i_0, nI_1]
      refine ⟨fun z => ?_, fun z => ⟨64, hh, k, IXn (by omega) (by omega), fun σ7 h7 => ?_⟩⟩
      · have : fl (fun m => if m.testBit j then g m + (v - c e) else g m) g k = fl (fun m => if m.testBit j then g m + (v - c e) else g m) g (k + 1) := by
          rw [← fl_succ, z, if_neg (by decide)]
          have q : g k = fl (fun m => if m.testBit j then g m + (v - c e) else g m) g k k := (fl_out (Nat.le_refl k)).symm
          rw [q, up_self]
        rw [this]; exact ih
      · rw [gi_row, fl_out (Nat.le_refl k), fillI _ _ _ _ _ _ (by rw [ts_nf z, if_pos rfl])] at h7
        rw [h7]; exact ih
  have s6 : ∀ (cc : Nat → Int32) j m, j < 6 → csum (up cc j v) 6 m = if m.testBit j then csum cc 6 m + (v - cc j) else csum cc 6 m := by
    intro cc j m hj
    rw [csum_up]
    cases hb : m.testBit j
    · rw [if_neg (by simp), if_neg (by decide), Int32.add_zero]
    · rw [if_pos ⟨hj, rfl⟩, if_pos rfl]
  have h12 : nI e < 12 := (nI_ltI (b := 12) (by omega) (by decide)).mpr he
  have h6e : (6 : Int32) ≤ nI e ↔ 6 ≤ e := nI_leI (by decide) (by omega)
  refine eX2_replace ⟨fun z => absurd z (nn0 (by omega)), fun _ => ⟨fun _ => ⟨h0, ea, h1, 12, h4, e, IXn he (by omega), fun σ10 h10 => ?_⟩, fun z => absurd h12 z⟩⟩
  have C10 : Chg (fun a => a = ea ∨ a = lw ∨ a = upp) (fun _ => False) σ σ10 := by rw [h10]; exact Chg.rowI _ _ (Or.inl rfl)
  have g10 : ∀ x, x < 12 → gi σ10 ea x = up c e v x := by
    intro x hx
    rw [h10]
    unfold setI
    rw [gi_row]
    by_cases q : x = e
    · subst q; rw [up_same, up_same]
    · rw [up_ne _ _ q, up_ne _ _ q, h7 x hx]
  have l10 : gi σ10 lw = gi σ lw := by rw [h10]; exact gi_rown _ _ (Ne.symm n1)
  have u10 : gi σ10 upp = gi σ upp := by rw [h10]; exact gi_rown _ _ (Ne.symm n2)
  rw [h7 e he]
  refine ⟨fun z => ⟨upp, C10.gg h3, ?_⟩, fun z => ⟨lw, C10.gg h2, ?_⟩⟩
  · have e6 := h6e.mp z
    have ej : nI e - nI e / 6 * 6 = nI (e - 6) := (pk_rem (d := 6) (by omega) (by decide) (by decide)).trans (by congr 1; omega)
    have := loop upp (e - 6) (gi σ10 upp) σ10 (by omega) ej (C10.gh h6) 0 (by omega)
    rw [rowI_fl0] at this
    refine this.post (fun o σ' ⟨r, ho, hr, hσ⟩ => ⟨r, ho, hr, ?_, ?_⟩)
    · rw [hσ]; exact C10.trans (Chg.rowI _ _ (Or.inr (Or.inr rfl)))
    · have C' : Chg (fun a => a = ea ∨ a = lw ∨ a = upp) (fun _ => False) σ σ' := by rw [hσ]; exact C10.trans (Chg.rowI _ _ (Or.inr (Or.inr rfl)))
      refine ⟨C'.gh h0, C'.gg h1, C'.gg h2, C'.gg h3, C'.gh h4, C'.gh h5, C'.gh h6, n1, n2, n3, fun x hx => ?_, fun m hm => ?_, fun m hm => ?_⟩
      · rw [hσ, gi_rown _ _ n2, g10 x hx]
      · rw [hσ, gi_rown _ _ n3, l10, h8 m hm, csum_up, if_neg (by omega), Int32.add_zero]
      · rw [hσ, gi_row, fl_in hm, u10, h9 m hm]
        have q : (fun j => up c e v (6 + j)) = up (fun j => c (6 + j)) (e - 6) v := by
          funext j
          unfold up
          by_cases q : j = e - 6
          · rw [if_pos q, if_pos (by omega)]
          · rw [if_neg q, if_neg (by omega)]
        rw [q, s6 _ _ _ (by omega), show 6 + (e - 6) = e by omega]
  · have e6 : e < 6 := by
      rcases Nat.lt_or_ge e 6 with q | q
      · exact q
      · exact absurd (h6e.mpr q) z
    have ej : nI e - nI e / 6 * 6 = nI e := (pk_rem (d := 6) (by omega) (by decide) (by decide)).trans (by congr 1; omega)
    have := loop lw e (gi σ10 lw) σ10 e6 ej (C10.gh h5) 0 (by omega)
    rw [rowI_fl0] at this
    refine this.post (fun o σ' ⟨r, ho, hr, hσ⟩ => ⟨r, ho, hr, ?_, ?_⟩)
    · rw [hσ]; exact C10.trans (Chg.rowI _ _ (Or.inr (Or.inl rfl)))
    · have C' : Chg (fun a => a = ea ∨ a = lw ∨ a = upp) (fun _ => False) σ σ' := by rw [hσ]; exact C10.trans (Chg.rowI _ _ (Or.inr (Or.inl rfl)))
      refine ⟨C'.gh h0, C'.gg h1, C'.gg h2, C'.gg h3, C'.gh h4, C'.gh h5, C'.gh h6, n1, n2, n3, fun x hx => ?_, fun m hm => ?_, fun m hm => ?_⟩
      · rw [hσ, gi_rown _ _ n1, g10 x hx]
      · rw [hσ, gi_row, fl_in hm, l10, h8 m hm, s6 _ _ _ e6]
      · rw [hσ, gi_rown _ _ (Ne.symm n3), u10, h9 m hm]
        have q : (fun j => up c e v (6 + j)) = fun j => c (6 + j) := by
          funext j
          exact up_ne _ _ (by omega)
        rw [q]
