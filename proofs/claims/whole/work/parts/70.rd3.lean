/-! ROWS of Reader: words. -/
theorem or_add {m e : Nat} (h : m.testBit e = false) : m ||| 2 ^ e = m + 2 ^ e := by
  apply Nat.eq_of_testBit_eq
  intro i
  rw [Nat.testBit_or, Nat.testBit_two_pow, tb_add h]
  congr 1
  exact Bool.eq_iff_iff.mpr ⟨fun z => decide_eq_true (of_decide_eq_true z).symm, fun z => decide_eq_true (of_decide_eq_true z).symm⟩
/-- a number that is an element, or not -/
theorem el_cases (x : Int32) : (∃ e, e < 12 ∧ x = nI e ∧ x.toBitVec.toNat = e) ∨ ((x < 0 ∨ (¬ x < 0 ∧ (12 : Int32) ≤ x)) ∧ ¬ x.toBitVec.toNat < 12) := by
  obtain ⟨n, hn, rfl⟩ := wb_of32 x
  rw [pk_tn hn]
  rcases Nat.lt_or_ge n 12 with c | c
  · exact Or.inl ⟨n, c, rfl, rfl⟩
  · refine Or.inr ⟨?_, by omega⟩
    rcases Nat.lt_or_ge n (2 ^ 31) with c2 | c2
    · exact Or.inr ⟨nI_pos c2, (c12le c2).mpr c⟩
    · left
      rw [Int32.lt_iff_toInt_lt, nI_ti n hn, if_neg (by omega)]
      have : (0 : Int32).toInt = 0 := by decide
      omega
section RD
variable {Γ : Gm} {d : Nat} {σ : AH} {rd tx fm kn vl tl p : Nat} {t : Nat → Int32} {ok : Nat → Bool} {pr : List Nat} {e : Option Nat}
theorem isWord_R {a b c : Int32} (C : CRs σ rd tx fm kn vl t tl ok) (D : CT σ rd kn vl t tl p pr e) (hp : p < tl) (hd : 1 ≤ d) : RI Γ d MX6_isWord [.ref rd, .int a, .int b, .int c] σ (fun r σ' => σ' = σ ∧ r = b2i (w3 t p (tnd t tl p) a b c)) := by
  obtain ⟨q1, q2⟩ := tnd_gt (t := t) hp
  have tl2 : tl ≤ 200 := C.2.2.2.2.2.2.2.2.2.2.1
  have D1 := D.2.1
  have e8 : gi σ rd 8 - gi σ rd 7 = nI (tnd t tl p - p) := by rw [D.2.2.1, D.2.1]; exact pk_sub (by omega)
  generalize tnd t tl p = q at q1 q2 e8
  refine eX6_isWord ⟨C.1, fun z => ⟨_, rfl, rfl, ?_⟩, fun z => ?_⟩
  · rw [e8] at z
    have : q ≠ p + 3 := fun w => z (by rw [w, show p + 3 - p = 3 by omega]; rfl)
    unfold w3
    rw [decide_eq_false this]; rfl
  · rw [e8] at z
    have hq : q = p + 3 := by
      have := (nI_eq (a := q - p) (b := 3) (by omega) (by omega)).mp z
      omega
    rw [D1]
    refine CI.of (d2 := 0) (at_R C D.1 (by omega)) (by omega) (fun r σ1 hw hp => ?_)
    obtain ⟨rfl, rfl⟩ := hp
    refine ⟨fun w => ⟨_, rfl, rfl, ?_⟩, fun w1 => ⟨C.1, ?_⟩⟩
    · unfold w3; rw [decide_eq_true hq, decide_eq_false w]; rfl
    · rw [D1, nI_1]
      refine CI.of (d2 := 0) (at_R C D.1 (by omega)) (by omega) (fun r σ1 hw hp => ?_)
      obtain ⟨rfl, rfl⟩ := hp
      refine ⟨fun w => ⟨_, rfl, rfl, ?_⟩, fun w2 => ⟨C.1, ?_⟩⟩
      · unfold w3; rw [decide_eq_true hq, decide_eq_true w1, decide_eq_false w]; rfl
      · rw [D1, show nI p + 2 = nI (p + 2) from nI_add p 2]
        refine CI.of (d2 := 0) (at_R C D.1 (by omega)) (by omega) (fun r σ1 hw hp => ?_)
        obtain ⟨rfl, rfl⟩ := hp
        refine ⟨fun w => ⟨_, rfl, rfl, ?_⟩, fun w3' => ⟨_, rfl, rfl, ?_⟩⟩
        · unfold w3; rw [decide_eq_true hq, decide_eq_true w1, decide_eq_true w2, decide_eq_false w]; rfl
        · unfold w3; rw [decide_eq_true hq, decide_eq_true w1, decide_eq_true w2, decide_eq_true w3']; rfl
theorem fnOf_R (C : CRs σ rd tx fm kn vl t tl ok) (D : CT σ rd kn vl t tl p pr e) (hp : p < tl) (hd : 2 ≤ d) : RI Γ d MX6_functionOfWord [.ref rd] σ (fun r σ' => σ' = σ ∧ r = if fnW t p (tnd t tl p) = 0 then 0 else nI (clsOp (fnW t p (tnd t tl p)))) := by
  refine eX6_functionOfWord ⟨C.1, CI.of (d2 := 1) (isWord_R C D hp (by omega)) (by omega) (fun r σ1 hw hp => ?_)⟩
  obtain ⟨rfl, rfl⟩ := hp
  refine ⟨fun z1 => ⟨C.1, ?_⟩, fun z => ⟨_, rfl, rfl, ?_⟩⟩
  · have y1 := (b2i_0 _).mp z1
    refine CI.of (d2 := 1) (isWord_R C D hp (by omega)) (by omega) (fun r σ1 hw hp => ?_)
    obtain ⟨rfl, rfl⟩ := hp
    refine ⟨fun z1 => ⟨C.1, ?_⟩, fun z => ⟨_, rfl, rfl, ?_⟩⟩
    · have y2 := (b2i_0 _).mp z1
      refine CI.of (d2 := 1) (isWord_R C D hp (by omega)) (by omega) (fun r σ1 hw hp => ?_)
      obtain ⟨rfl, rfl⟩ := hp
      refine ⟨fun z1 => ⟨C.1, ?_⟩, fun z => ⟨_, rfl, rfl, ?_⟩⟩
      · have y3 := (b2i_0 _).mp z1
        refine CI.of (d2 := 1) (isWord_R C D hp (by omega)) (by omega) (fun r σ1 hw hp => ?_)
        obtain ⟨rfl, rfl⟩ := hp
        refine ⟨fun z1 => ⟨_, rfl, rfl, ?_⟩, fun z => ⟨_, rfl, rfl, ?_⟩⟩
        · have y4 := (b2i_0 _).mp z1
          unfold fnW; rw [y1, y2, y3, y4]; rfl
        · have y4 := (b2i_ne0 _).mp z
          unfold fnW; rw [y1, y2, y3, y4]; rfl
      · have y3 := (b2i_ne0 _).mp z
        unfold fnW; rw [y1, y2, y3]; rfl
    · have y2 := (b2i_ne0 _).mp z
      unfold fnW; rw [y1, y2]; rfl
  · have y1 := (b2i_ne0 _).mp z
    unfold fnW; rw [y1]; rfl
theorem mkOf_R (C : CRs σ rd tx fm kn vl t tl ok) (D : CT σ rd kn vl t tl p pr e) (hp : p < tl) (hd : 1 ≤ d) : RI Γ d MX6_maskOfWord [.ref rd] σ (fun r σ' => σ' = σ ∧ r = match mkW t (tnd t tl p - p) p 0 with | none => 0 | some m => nI m) := by
  obtain ⟨q1, q2⟩ := tnd_gt (t := t) hp
  have tl2 : tl ≤ 200 := C.2.2.2.2.2.2.2.2.2.2.1
  have D1 := D.2.1
  have D2 := D.2.2.1
  generalize tnd t tl p = q at q1 q2 D2
  have L : ∀ n i m, i + n = q → m < 4096 → mkW t n i m = mkW t (q - p) p 0 → EV Γ MX6_maskOfWord d 7 [some (.ref rd), some (.int (nI m)), some (.int (nI i)), none] [] σ (fun o σ' => ∃ r : Int32, o = .inl (some (.int r)) ∧ σ' = σ ∧ r = match mkW t (q - p) p 0 with | none => 0 | some m => nI m) := by
    intro n
    induction n with
    | zero =>
      intro i m hi hm hh
      refine gX6_maskOfWord_7 ⟨C.1, fun z => ⟨_, rfl, rfl, ?_⟩, fun z => absurd (by rw [D2]; exact nI_le (by omega) (by omega)) z⟩
      rw [← hh]; rfl
    | succ n ih =>
      intro i m hi hm hh
      refine gX6_maskOfWord_7 ⟨C.1, fun z => absurd (by rw [D2] at z; exact (nI_leI (by omega) (by omega)).mp z) (by omega), fun z => ?_⟩
      refine CI.of (d2 := 0) (at_R C D.1 (by omega)) (by omega) (fun r σ1 hw hp => ?_)
      obtain ⟨rfl, rfl⟩ := hp
      have hh2 : mkW t (n + 1) i m = if (t i - 97).toBitVec.toNat < 12 ∧ m.testBit (t i - 97).toBitVec.toNat = false then mkW t n (i + 1) (m + 2 ^ (t i - 97).toBitVec.toNat) else none := rfl
      rw [hh] at hh2
      rcases el_cases (t i - 97) with ⟨k, hk, ek, ek2⟩ | ⟨h1, h2⟩
      · rw [ek2] at hh2
        rw [ek]
        refine ⟨fun z => absurd z (nn0 (by omega)), fun _ => ⟨fun z => absurd ((c12le (by omega)).mp z) (by omega), fun _ => ⟨fun z => ?_, fun z => ⟨_, rfl, rfl, ?_⟩⟩⟩⟩
        · rw [n_bit (by omega) (by omega)] at z
          have y := (b2i_0 _).mp z
          rw [if_pos ⟨hk, y⟩] at hh2
          rw [el_bit k hk, fa_or, or_add y, nI_1]
          exact ih (i + 1) _ (by omega) (add_lt hm hk y) hh2.symm
        · rw [n_bit (by omega) (by omega)] at z
          have y := (b2i_ne0 _).mp z
          rw [if_neg (by rw [y]; simp)] at hh2
          rw [hh2]
      · rw [if_neg (fun z => h2 z.1)] at hh2
        refine ⟨fun z => ⟨_, rfl, rfl, by rw [hh2]⟩, fun z => ⟨fun y => ⟨_, rfl, rfl, by rw [hh2]⟩, fun y => ?_⟩⟩
        rcases h1 with h1 | h1
        · exact absurd h1 z
        · exact absurd h1.2 y
  refine eX6_maskOfWord ⟨C.1, ?_⟩
  rw [D1]
  exact L (q - p) p 0 (by omega) (by omega) rfl
end RD
