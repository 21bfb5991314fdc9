/-! THE LAW's tables of all sets: join, quotient, extreme, hitting. -/
theorem or64 {a b : Nat} (ha : a < 64) (hb : b < 64) : a ||| b < 64 := Nat.or_lt_two_pow (n := 6) ha hb
theorem or_n : ∀ a, a < 64 → ∀ b, b < 64 → nI a ||| nI b = nI (a ||| b) := by decide +kernel
theorem and_n : ∀ a, a < 64 → ∀ b, b < 64 → ((nI a &&& nI b = 0) ↔ a &&& b = 0) := by decide +kernel
theorem b2i0 (b : Bool) : b2i b = 0 ↔ b = false := by cases b <;> decide
theorem le64 {k : Nat} (h : k < 2 ^ 31) : (64 : Int32) ≤ nI k ↔ 64 ≤ k := nI_leI (a := 64) (by decide) h
/-- all below c that have P -/
def TB (P : Nat → Prop) (y : Int64) (c : Nat) : Prop := ∀ m, m < 64 → (wb y m = true ↔ m < c ∧ P m)
theorem TB.zero (P : Nat → Prop) : TB P 0 0 := fun m _ => by
  rw [w_zero]
  exact ⟨fun h => absurd h (by decide), fun h => absurd h.1 (by omega)⟩
theorem TB.yes {P : Nat → Prop} {y : Int64} {c : Nat} (h : TB P y c) (hc : c < 64) (hp : P c) : TB P (y ||| bitL c) (c + 1) := fun m hm => by
  rw [w_put y hc hm, Bool.or_eq_true, decide_eq_true_iff, h m hm]
  constructor
  · rintro (⟨a, b⟩ | e)
    · exact ⟨by omega, b⟩
    · rw [e]; exact ⟨by omega, hp⟩
  · rintro ⟨a, b⟩
    by_cases e : m = c
    · exact Or.inr e
    · exact Or.inl ⟨by omega, b⟩
theorem TB.no {P : Nat → Prop} {y : Int64} {c : Nat} (h : TB P y c) (hp : ¬ P c) : TB P y (c + 1) := fun m hm => by
  rw [h m hm]
  constructor
  · rintro ⟨a, b⟩
    exact ⟨by omega, b⟩
  · rintro ⟨a, b⟩
    by_cases e : m = c
    · rw [e] at b; exact absurd b hp
    · exact ⟨by omega, b⟩
/-- a flag that says: A, and G below k -/
def FLg (v : Int32) (A : Prop) (G : Nat → Prop) (k : Nat) : Prop := (v = 1 ∧ A ∧ ∀ b, b < k → G b) ∨ (v = 0 ∧ ¬ (A ∧ ∀ b, b < k → G b))
theorem FLg.yes {v : Int32} {A : Prop} {G : Nat → Prop} {k : Nat} (h : FLg v A G k) (hv : ¬ v = 0) (g : G k) : FLg 1 A G (k + 1) := by
  rcases h with ⟨-, a, b⟩ | ⟨e, -⟩
  · refine Or.inl ⟨rfl, a, fun i hi => ?_⟩
    by_cases c : i = k
    · rw [c]; exact g
    · exact b i (by omega)
  · exact absurd e hv
theorem FLg.no {A : Prop} {G : Nat → Prop} {k : Nat} (g : ¬ G k) : FLg 0 A G (k + 1) := Or.inr ⟨rfl, fun z => g (z.2 k (by omega))⟩
theorem FLg.off {v : Int32} {A : Prop} {G : Nat → Prop} {k : Nat} (h : FLg v A G k) (hv : v = 0) : FLg 0 A G (k + 1) := by
  rcases h with ⟨e, -⟩ | ⟨-, n⟩
  · rw [hv] at e; exact absurd e (by decide)
  · exact Or.inr ⟨rfl, fun z => n ⟨z.1, fun b hb => z.2 b (by omega)⟩⟩
theorem FLg.t {v : Int32} {A : Prop} {G : Nat → Prop} {k : Nat} (h : FLg v A G k) (hv : ¬ v = 0) : A ∧ ∀ b, b < k → G b := by
  rcases h with ⟨-, z⟩ | ⟨e, -⟩
  · exact z
  · exact absurd e hv
theorem FLg.f {v : Int32} {A : Prop} {G : Nat → Prop} {k : Nat} (h : FLg v A G k) (hv : v = 0) : ¬ (A ∧ ∀ b, b < k → G b) := by
  rcases h with ⟨e, -⟩ | ⟨-, n⟩
  · rw [hv] at e; exact absurd e (by decide)
  · exact n
/-- unions met so far -/
def JN (f g y : Int64) (a b : Nat) : Prop := ∀ m, m < 64 → (wb y m = true ↔ ∃ p q, (p < a ∨ (p = a ∧ q < b)) ∧ wb f p = true ∧ wb g q = true ∧ p ||| q = m)
section JNS
variable {f g y : Int64} {a b : Nat}
theorem JN.skip (h : JN f g y a b) (n : ¬ (wb f a = true ∧ wb g b = true)) : JN f g y a (b + 1) := by
  intro m hm
  rw [h m hm]
  constructor
  · rintro ⟨p, q, c, r⟩
    exact ⟨p, q, by omega, r⟩
  · rintro ⟨p, q, c, r1, r2, r3⟩
    refine ⟨p, q, ?_, r1, r2, r3⟩
    rcases c with c | ⟨c1, c2⟩
    · exact Or.inl c
    · by_cases e : q = b
      · exact absurd ⟨by rw [← c1]; exact r1, by rw [← e]; exact r2⟩ n
      · exact Or.inr ⟨c1, by omega⟩
theorem JN.put (h : JN f g y a b) (ha : a < 64) (hb : b < 64) (h1 : wb f a = true) (h2 : wb g b = true) : JN f g (y ||| bitL (a ||| b)) a (b + 1) := by
  intro m hm
  rw [w_put y (or64 ha hb) hm, Bool.or_eq_true, decide_eq_true_iff, h m hm]
  constructor
  · rintro (⟨p, q, c, r⟩ | e)
    · exact ⟨p, q, by omega, r⟩
    · exact ⟨a, b, Or.inr ⟨rfl, by omega⟩, h1, h2, e.symm⟩
  · rintro ⟨p, q, c, r1, r2, r3⟩
    by_cases e : p = a ∧ q = b
    · right; rw [← r3, e.1, e.2]
    · left; exact ⟨p, q, by omega, r1, r2, r3⟩
theorem JN.row (h : JN f g y a 64) : JN f g y (a + 1) 0 := fun m hm => by
  rw [h m hm]
  constructor
  · rintro ⟨p, q, c, r⟩
    exact ⟨p, q, by omega, r⟩
  · rintro ⟨p, q, c, r1, r2, r3⟩
    have := wb_lt r2
    exact ⟨p, q, by omega, r1, r2, r3⟩
end JNS
section LAWTAB
variable {Γ : Gm} {d : Nat} {σ : AH} {f g : Int64} {Q : Oc → AH → Prop}
theorem join_16 {a : Nat} (ha : a < 64) (hd : 1 ≤ d) (KO : ∀ y, JN f g y (a + 1) 0 → EV Γ ML_join d 6 [some (.long f), none, some (.long g), none, some (.long y), none, some (.int (nI (a + 1))), none] [] σ Q) : ∀ b, b ≤ 64 → ∀ y, JN f g y a b → EV Γ ML_join d 16 [some (.long f), none, some (.long g), none, some (.long y), none, some (.int (nI a)), some (.int (nI b))] [] σ Q := by
  refine upto 64 (fun y h => ?_) (fun b hb ih y h => ?_)
  · refine gL_join_16 ⟨fun _ => ?_, fun z => absurd ((le64 (by omega)).mpr (Nat.le_refl 64)) z⟩
    rw [nI_1]; exact KO y h.row
  · refine gL_join_16 ⟨fun z => absurd ((le64 (by omega)).mp z) (by omega), fun _ => ?_⟩
    refine CI.of (d2 := 0) (has_L ha) (by omega) (fun r σ1 _ e => ?_)
    obtain ⟨rfl, rfl⟩ := e
    refine ⟨fun z => ?_, fun z => CI.of (d2 := 0) (has_L hb) (by omega) (fun r σ2 _ e2 => ?_)⟩
    · rw [nI_1]
      exact ih y (h.skip (fun k => by rw [(b2i0 _).mp z] at k; exact absurd k.1 (by decide)))
    · obtain ⟨rfl, rfl⟩ := e2
      refine ⟨fun z2 => ?_, fun z2 => ?_⟩
      · rw [nI_1]
        exact ih y (h.skip (fun k => by rw [(b2i0 _).mp z2] at k; exact absurd k.2 (by decide)))
      · rw [nI_1, or_n a ha b hb]
        have t1 : wb f a = true := by
          cases q : wb f a
          · exact absurd ((b2i0 _).mpr q) z
          · rfl
        have t2 : wb g b = true := by
          cases q : wb g b
          · exact absurd ((b2i0 _).mpr q) z2
          · rfl
        exact ih _ (h.put ha hb t1 t2)
theorem join_L (hd : 1 ≤ d) : RJ Γ d ML_join [.long f, .long g] σ (fun y σ' => σ' = σ ∧ ∀ m, m < 64 → (wb y m = true ↔ ∃ p q, wb f p = true ∧ wb g q = true ∧ p ||| q = m)) := by
  have main : ∀ a, a ≤ 64 → ∀ y, JN f g y a 0 → EV Γ ML_join d 6 [some (.long f), none, some (.long g), none, some (.long y), none, some (.int (nI a)), none] [] σ (fun oc σ' => ∃ r : Int64, oc = .inl (some (.long r)) ∧ σ' = σ ∧ ∀ m, m < 64 → (wb r m = true ↔ ∃ p q, wb f p = true ∧ wb g q = true ∧ p ||| q = m)) := by
    refine upto 64 (fun y h => ?_) (fun a ha ih y h => ?_)
    · refine gL_join_6 ⟨fun _ => ⟨y, rfl, rfl, fun m hm => ?_⟩, fun z => absurd ((le64 (by omega)).mpr (Nat.le_refl 64)) z⟩
      rw [h m hm]
      exact ⟨fun ⟨p, q, _, r⟩ => ⟨p, q, r⟩, fun ⟨p, q, r⟩ => ⟨p, q, Or.inl (wb_lt r.1), r⟩⟩
    · refine gL_join_6 ⟨fun z => absurd ((le64 (by omega)).mp z) (by omega), fun _ => ?_⟩
      exact join_16 ha hd ih 0 (by omega) y h
  refine eL_join (main 0 (by omega) 0 (fun m _ => ?_))
  rw [w_zero]
  exact ⟨fun h => absurd h (by decide), fun ⟨p, q, c, _⟩ => by omega⟩
/-- b allows c in the quotient -/
def QG (f g : Int64) (c b : Nat) : Prop := wb g b = true → b &&& c = 0 ∧ wb f (b ||| c) = true
theorem quot_19 {c : Nat} {y : Int64} (hc : c < 64) (hd : 1 ≤ d) (Y : True ∧ (∀ b, b < 64 → QG f g c b) → EV Γ ML_quotient d 6 [some (.long f), none, some (.long g), none, some (.long (y ||| bitL c)), none, some (.int (nI (c + 1))), none, none] [] σ Q) (N : ¬ (True ∧ ∀ b, b < 64 → QG f g c b) → EV Γ ML_quotient d 6 [some (.long f), none, some (.long g), none, some (.long y), none, some (.int (nI (c + 1))), none, none] [] σ Q) : ∀ b, b ≤ 64 → ∀ v, FLg v True (QG f g c) b → EV Γ ML_quotient d 19 [some (.long f), none, some (.long g), none, some (.long y), none, some (.int (nI c)), some (.int v), some (.int (nI b))] [] σ Q := by
  refine upto 64 (fun v h => ?_) (fun b hb ih v h => ?_)
  · refine gL_quotient_19 ⟨fun _ => ⟨fun z => ?_, fun z => ?_⟩, fun z => absurd ((le64 (by omega)).mpr (Nat.le_refl 64)) z⟩
    · rw [nI_1]; exact N (h.f z)
    · rw [nI_1]; exact Y (h.t z)
  · refine gL_quotient_19 ⟨fun z => absurd ((le64 (by omega)).mp z) (by omega), fun _ => ⟨fun z => ?_, fun z => CI.of (d2 := 0) (has_L hb) (by omega) (fun r σ1 _ e => ?_)⟩⟩
    · rw [nI_1]; exact ih 0 (h.off z)
    · obtain ⟨rfl, rfl⟩ := e
      rw [nI_1]
      refine ⟨fun z2 => ih 1 (h.yes z (fun k => by rw [(b2i0 _).mp z2] at k; exact absurd k (by decide))), fun z2 => ?_⟩
      have t2 : wb g b = true := by
        cases q : wb g b
        · exact absurd ((b2i0 _).mpr q) z2
        · rfl
      refine ⟨fun z3 => ih 0 (FLg.no (fun k => z3 ((and_n b hb c hc).mpr (k t2).1))), fun z3 => ?_⟩
      rw [or_n b hb c hc]
      refine CI.of (d2 := 0) (has_L (or64 hb hc)) (by omega) (fun r σ2 _ e2 => ?_)
      obtain ⟨rfl, rfl⟩ := e2
      refine ⟨fun z4 => ih 0 (FLg.no (fun k => by have := (k t2).2; rw [(b2i0 _).mp z4] at this; exact absurd this (by decide))), fun z4 => ih 1 (h.yes z (fun _ => ⟨(and_n b hb c hc).mp z3, ?_⟩))⟩
      cases q : wb f (b ||| c)
      · exact absurd ((b2i0 _).mpr q) z4
      · rfl
theorem quotient_L (hd : 1 ≤ d) : RJ Γ d ML_quotient [.long f, .long g] σ (fun y σ' => σ' = σ ∧ TB (fun c => True ∧ ∀ b, b < 64 → QG f g c b) y 64) := by
  have main : ∀ c, c ≤ 64 → ∀ y, TB (fun c => True ∧ ∀ b, b < 64 → QG f g c b) y c → EV Γ ML_quotient d 6 [some (.long f), none, some (.long g), none, some (.long y), none, some (.int (nI c)), none, none] [] σ (fun oc σ' => ∃ r : Int64, oc = .inl (some (.long r)) ∧ σ' = σ ∧ TB (fun c => True ∧ ∀ b, b < 64 → QG f g c b) r 64) := by
    refine upto 64 (fun y h => ?_) (fun c hc ih y h => ?_)
    · exact gL_quotient_6 ⟨fun _ => ⟨y, rfl, rfl, h⟩, fun z => absurd ((le64 (by omega)).mpr (Nat.le_refl 64)) z⟩
    · refine gL_quotient_6 ⟨fun z => absurd ((le64 (by omega)).mp z) (by omega), fun _ => ?_⟩
      exact quot_19 hc hd (fun p => ih _ (h.yes hc p)) (fun p => ih _ (h.no p)) 0 (by omega) 1 (Or.inl ⟨rfl, trivial, fun b hb => absurd hb (by omega)⟩)
  exact eL_quotient (main 0 (by omega) 0 (TB.zero _))
/-- b doesn't stand against a among the extreme sets -/
def XG (s : Int32) (f : Int64) (a b : Nat) : Prop := a = b ∨ ¬ wb f b = true ∨ (if s = 0 then ¬ Sb a b else ¬ Sb b a)
theorem extr_23 {s : Int32} {a : Nat} {y : Int64} (ha : a < 64) (hd : 1 ≤ d) (Y : wb f a = true ∧ (∀ b, b < 64 → XG s f a b) → EV Γ ML_extreme d 5 [some (.long f), none, some (.int s), some (.long (y ||| bitL a)), none, some (.int (nI (a + 1))), none, none] [] σ Q) (N : ¬ (wb f a = true ∧ ∀ b, b < 64 → XG s f a b) → EV Γ ML_extreme d 5 [some (.long f), none, some (.int s), some (.long y), none, some (.int (nI (a + 1))), none, none] [] σ Q) : ∀ b, b ≤ 64 → ∀ v, FLg v (wb f a = true) (XG s f a) b → EV Γ ML_extreme d 23 [some (.long f), none, some (.int s), some (.long y), none, some (.int (nI a)), some (.int v), some (.int (nI b))] [] σ Q := by
  refine upto 64 (fun v h => ?_) (fun b hb ih v h => ?_)
  · refine gL_extreme_23 ⟨fun _ => ⟨fun z => ?_, fun z => ?_⟩, fun z => absurd ((le64 (by omega)).mpr (Nat.le_refl 64)) z⟩
    · rw [nI_1]; exact N (h.f z)
    · rw [nI_1]; exact Y (h.t z)
  · refine gL_extreme_23 ⟨fun z => absurd ((le64 (by omega)).mp z) (by omega), fun _ => ⟨fun z => ?_, fun z => ⟨fun ab => ?_, fun ab => CI.of (d2 := 0) (has_L hb) (by omega) (fun r σ1 _ e => ?_)⟩⟩⟩
    · rw [nI_1]; exact ih 0 (h.off z)
    · rw [nI_1]; exact ih 1 (h.yes z (Or.inl ((nI_eq (by omega) (by omega)).mp ab)))
    · obtain ⟨rfl, rfl⟩ := e
      have nab : ¬ a = b := fun k => ab (by rw [k])
      rw [nI_1]
      refine ⟨fun z2 => ih 1 (h.yes z (Or.inr (Or.inl (by rw [(b2i0 _).mp z2]; decide)))), fun z2 => ?_⟩
      have t2 : wb f b = true := by
        cases q : wb f b
        · exact absurd ((b2i0 _).mpr q) z2
        · rfl
      have sab := sub_mask (k := a) (m := b) (by omega)
      have sba := sub_mask (k := b) (m := a) (by omega)
      refine ⟨fun s0 => ⟨fun z3 => ih 0 (FLg.no ?_), fun z3 => ih 1 (h.yes z (Or.inr (Or.inr ?_)))⟩, fun s1 => ⟨fun z3 => ih 0 (FLg.no ?_), fun z3 => ih 1 (h.yes z (Or.inr (Or.inr ?_)))⟩⟩
      · rintro (k | k | k)
        · exact nab k
        · exact k t2
        · rw [if_pos s0] at k; exact k (sab.mp z3)
      · rw [if_pos s0]; exact fun k => z3 (sab.mpr k)
      · rintro (k | k | k)
        · exact nab k
        · exact k t2
        · rw [if_neg s1] at k; exact k (sba.mp z3)
      · rw [if_neg s1]; exact fun k => z3 (sba.mpr k)
theorem extreme_L {s : Int32} (hd : 1 ≤ d) : RJ Γ d ML_extreme [.long f, .int s] σ (fun y σ' => σ' = σ ∧ TB (fun a => wb f a = true ∧ ∀ b, b < 64 → XG s f a b) y 64) := by
  have main : ∀ a, a ≤ 64 → ∀ y, TB (fun a => wb f a = true ∧ ∀ b, b < 64 → XG s f a b) y a → EV Γ ML_extreme d 5 [some (.long f), none, some (.int s), some (.long y), none, some (.int (nI a)), none, none] [] σ (fun oc σ' => ∃ r : Int64, oc = .inl (some (.long r)) ∧ σ' = σ ∧ TB (fun a => wb f a = true ∧ ∀ b, b < 64 → XG s f a b) r 64) := by
    refine upto 64 (fun y h => ?_) (fun a ha ih y h => ?_)
    · exact gL_extreme_5 ⟨fun _ => ⟨y, rfl, rfl, h⟩, fun z => absurd ((le64 (by omega)).mpr (Nat.le_refl 64)) z⟩
    · refine gL_extreme_5 ⟨fun z => absurd ((le64 (by omega)).mp z) (by omega), fun _ => CI.of (d2 := 0) (has_L ha) (by omega) (fun r σ1 _ e => ?_)⟩
      obtain ⟨rfl, rfl⟩ := e
      refine extr_23 ha hd (fun p => ih _ (h.yes ha p)) (fun p => ih _ (h.no p)) 0 (by omega) _ ?_
      cases q : wb f a
      · exact Or.inr ⟨rfl, fun k => absurd k.1 (by decide)⟩
      · exact Or.inl ⟨rfl, rfl, fun b hb => absurd hb (by omega)⟩
  exact eL_extreme (main 0 (by omega) 0 (TB.zero _))
/-- h meets a -/
def HG (f : Int64) (h a : Nat) : Prop := wb f a = true → ¬ a &&& h = 0
theorem hitt_18 {c : Nat} {y : Int64} (hc : c < 64) (hd : 1 ≤ d) (Y : True ∧ (∀ b, b < 64 → HG f c b) → EV Γ ML_hitting d 5 [some (.long f), none, some (.long (y ||| bitL c)), none, some (.int (nI (c + 1))), none, none] [] σ Q) (N : ¬ (True ∧ ∀ b, b < 64 → HG f c b) → EV Γ ML_hitting d 5 [some (.long f), none, some (.long y), none, some (.int (nI (c + 1))), none, none] [] σ Q) : ∀ b, b ≤ 64 → ∀ v, FLg v True (HG f c) b → EV Γ ML_hitting d 18 [some (.long f), none, some (.long y), none, some (.int (nI c)), some (.int v), some (.int (nI b))] [] σ Q := by
  refine upto 64 (fun v h => ?_) (fun b hb ih v h => ?_)
  · refine gL_hitting_18 ⟨fun _ => ⟨fun z => ?_, fun z => ?_⟩, fun z => absurd ((le64 (by omega)).mpr (Nat.le_refl 64)) z⟩
    · rw [nI_1]; exact N (h.f z)
    · rw [nI_1]; exact Y (h.t z)
  · refine gL_hitting_18 ⟨fun z => absurd ((le64 (by omega)).mp z) (by omega), fun _ => ⟨fun z => ?_, fun z => CI.of (d2 := 0) (has_L hb) (by omega) (fun r σ1 _ e => ?_)⟩⟩
    · rw [nI_1]; exact ih 0 (h.off z)
    · obtain ⟨rfl, rfl⟩ := e
      rw [nI_1]
      refine ⟨fun z2 => ih 1 (h.yes z (fun k => by rw [(b2i0 _).mp z2] at k; exact absurd k (by decide))), fun z2 => ?_⟩
      have t2 : wb f b = true := by
        cases q : wb f b
        · exact absurd ((b2i0 _).mpr q) z2
        · rfl
      exact ⟨fun z3 => ih 0 (FLg.no (fun k => k t2 ((and_n b hb c hc).mp z3))), fun z3 => ih 1 (h.yes z (fun _ k => z3 ((and_n b hb c hc).mpr k)))⟩
theorem hitting_L (hd : 2 ≤ d) : RJ Γ d ML_hitting [.long f] σ (fun y σ' => σ' = σ ∧ ∃ x, TB (fun c => True ∧ ∀ b, b < 64 → HG f c b) x 64 ∧ TB (fun a => wb x a = true ∧ ∀ b, b < 64 → XG 1 x a b) y 64) := by
  have main : ∀ c, c ≤ 64 → ∀ y, TB (fun c => True ∧ ∀ b, b < 64 → HG f c b) y c → EV Γ ML_hitting d 5 [some (.long f), none, some (.long y), none, some (.int (nI c)), none, none] [] σ (fun oc σ' => ∃ r : Int64, oc = .inl (some (.long r)) ∧ σ' = σ ∧ ∃ x, TB (fun c => True ∧ ∀ b, b < 64 → HG f c b) x 64 ∧ TB (fun a => wb x a = true ∧ ∀ b, b < 64 → XG 1 x a b) r 64) := by
    refine upto 64 (fun y h => ?_) (fun c hc ih y h => ?_)
    · refine gL_hitting_5 ⟨fun _ => CJ.of (d2 := 1) (extreme_L (by omega)) (by omega) (fun r σ1 _ e => ?_), fun z => absurd ((le64 (by omega)).mpr (Nat.le_refl 64)) z⟩
      obtain ⟨rfl, e⟩ := e
      exact ⟨r, rfl, rfl, y, h, e⟩
    · refine gL_hitting_5 ⟨fun z => absurd ((le64 (by omega)).mp z) (by omega), fun _ => ?_⟩
      exact hitt_18 hc (by omega) (fun p => ih _ (h.yes hc p)) (fun p => ih _ (h.no p)) 0 (by omega) 1 (Or.inl ⟨rfl, trivial, fun b hb => absurd hb (by omega)⟩)
  exact eL_hitting (main 0 (by omega) 0 (TB.zero _))
end LAWTAB
