/-! PURE ROWS: the class's operations, over families that are longs. -/
theorem opF_w {o : Nat} {F G : Nat → Bool} {y : Int64} (h : ∀ m, m < 64 → (wb y m = true ↔ modP o F G m)) (h2 : ∀ m, m < 4096 → modP o F G m → m < 64) : opF o F G = wb y := by
  funext m
  apply Bool.eq_iff_iff.mpr
  unfold opF
  rw [Bool.and_eq_true, decide_eq_true_iff, bd_true]
  constructor
  · rintro ⟨a, b⟩
    exact (h m (h2 m a b)).mpr b
  · intro k
    have := wb_lt k
    exact ⟨by omega, (h m this).mp k⟩
theorem opF_w2 {o : Nat} {F G : Nat → Bool} {y : Int64} (h1 : 1 ≤ o) (h9 : o ≤ 9) (h : ∀ m, m < 64 → (wb y m = true ↔ op2 (clsOp o) F G m)) (h2 : ∀ m, m < 4096 → op2 (clsOp o) F G m → m < 64) : opF o F G = wb y :=
  opF_w (fun m hm => (h m hm).trans (same2 h1 h9 (by omega)).symm) (fun m hm k => h2 m hm ((same2 h1 h9 hm).mp k))
theorem opF_w1 {o : Nat} {F G : Nat → Bool} {y : Int64} (h1 : 10 ≤ o) (h9 : o ≤ 13) (h : ∀ m, m < 64 → (wb y m = true ↔ op1 (clsOp o) F m)) (h2 : ∀ m, m < 4096 → op1 (clsOp o) F m → m < 64) : opF o F G = wb y :=
  opF_w (fun m hm => (h m hm).trans (same1 h1 h9 (by omega)).symm) (fun m hm k => h2 m hm ((same1 h1 h9 hm).mp k))
theorem wb_f {x : Int64} {m : Nat} (h : ¬ wb x m = true) : wb x m = false := by rwa [Bool.not_eq_true] at h
theorem sem_union (f g : Int64) : opF 1 (wb f) (wb g) = wb (f ||| g) :=
  opF_w2 (by omega) (by omega) (fun m hm => by
    show wb (f ||| g) m = true ↔ (wb f m = true ∨ wb g m = true)
    rw [w_or, Bool.or_eq_true]) (fun m hm k => by
    have k : wb f m = true ∨ wb g m = true := k
    rcases k with k | k <;> exact wb_lt k)
theorem sem_diff (f g : Int64) : opF 2 (wb f) (wb g) = wb (f &&& (g ^^^ (-1))) :=
  opF_w2 (by omega) (by omega) (fun m hm => by
    show wb (f &&& (g ^^^ (-1))) m = true ↔ (wb f m = true ∧ wb g m = false)
    rw [w_and, w_not g hm, Bool.and_eq_true, Bool.not_eq_true']) (fun m hm k => by
    have k : wb f m = true ∧ wb g m = false := k
    exact wb_lt k.1)
theorem sem_inter (f g : Int64) : opF 3 (wb f) (wb g) = wb (f &&& g) :=
  opF_w2 (by omega) (by omega) (fun m hm => by
    show wb (f &&& g) m = true ↔ (wb f m = true ∧ wb g m = true)
    rw [w_and, Bool.and_eq_true]) (fun m hm k => by
    have k : wb f m = true ∧ wb g m = true := k
    exact wb_lt k.1)
theorem sem_join {f g y : Int64} (h : ∀ m, m < 64 → (wb y m = true ↔ ∃ p q, wb f p = true ∧ wb g q = true ∧ p ||| q = m)) : opF 4 (wb f) (wb g) = wb y :=
  opF_w2 (by omega) (by omega) (fun m hm => by
    show wb y m = true ↔ isOp false (wb f) (wb g) m
    rw [h m hm]
    exact ⟨fun ⟨p, q, a, b, c⟩ => ⟨p, q, by have := wb_lt a; omega, by have := wb_lt b; omega, a, b, c⟩, fun ⟨p, q, _, _, a, b, c⟩ => ⟨p, q, a, b, c⟩⟩) (fun m hm k => by
    have k : isOp false (wb f) (wb g) m := k
    obtain ⟨p, q, _, _, a, b, c⟩ := k
    have e : p ||| q = m := c
    rw [← e]
    exact or64 (wb_lt a) (wb_lt b))
theorem ne_bit {g : Int64} (h : g ≠ 0) : ∃ b, wb g b = true := by
  rcases Classical.em (∃ b, wb g b = true) with k | k
  · exact k
  · exact absurd ((w_zero_iff g).mpr (fun i _ => wb_f (fun z => k ⟨i, z⟩))) h
theorem quo_w {f g q : Int64} (h : TB (fun c => True ∧ ∀ b, b < 64 → QG f g c b) q 64) (hg : g ≠ 0) {m : Nat} : isQuo (wb f) (wb g) m ↔ wb q m = true := by
  constructor
  · intro k
    obtain ⟨b, hb⟩ := ne_bit hg
    have b6 := wb_lt hb
    have m6 : m < 64 := Nat.lt_of_le_of_lt Nat.left_le_or (wb_lt (k b (by omega) hb).2)
    refine (h m m6).mpr ⟨m6, trivial, fun b b6 hb => ?_⟩
    have := k b (by omega) hb
    rw [Nat.and_comm, Nat.or_comm]
    exact this
  · intro k y hy gy
    have := ((h m (wb_lt k)).mp k).2.2 y (wb_lt gy) gy
    rw [Nat.and_comm, Nat.or_comm]
    exact this
theorem sem_quot {f g y : Int64} (h : TB (fun c => True ∧ ∀ b, b < 64 → QG f g c b) y 64) (hg : g ≠ 0) : opF 5 (wb f) (wb g) = wb y :=
  opF_w2 (by omega) (by omega) (fun m hm => (quo_w h hg).symm) (fun m hm k => wb_lt ((quo_w h hg).mp k))
theorem sem_rem {f g q j : Int64} (h : TB (fun c => True ∧ ∀ b, b < 64 → QG f g c b) q 64) (hg : g ≠ 0) (hj : ∀ m, m < 64 → (wb j m = true ↔ ∃ p r, wb g p = true ∧ wb q r = true ∧ p ||| r = m)) : opF 6 (wb f) (wb g) = wb (f &&& (j ^^^ (-1))) := by
  have e : ∀ m, m < 64 → (isOp false (quoF (wb f) (wb g)) (wb g) m ↔ wb j m = true) := fun m hm => by
    rw [hj m hm]
    constructor
    · rintro ⟨x, y, _, _, a, b, c⟩
      have c : x ||| y = m := c
      exact ⟨y, x, b, (quo_w h hg).mp (bd_true.mp a), by rw [Nat.or_comm]; exact c⟩
    · rintro ⟨y, x, b, a, c⟩
      refine ⟨x, y, by have := wb_lt a; omega, by have := wb_lt b; omega, bd_true.mpr ((quo_w h hg).mpr a), b, ?_⟩
      show x ||| y = m
      rw [Nat.or_comm]; exact c
  refine opF_w2 (by omega) (by omega) (fun m hm => ?_) (fun m hm k => ?_)
  · show wb (f &&& (j ^^^ (-1))) m = true ↔ (wb f m = true ∧ ¬ isOp false (quoF (wb f) (wb g)) (wb g) m)
    rw [w_and, w_not j hm, Bool.and_eq_true, Bool.not_eq_true', e m hm, Bool.not_eq_true]
  · have k : wb f m = true ∧ ¬ isOp false (quoF (wb f) (wb g)) (wb g) m := k
    exact wb_lt k.1
theorem min_w {f y : Int64} (h : TB (fun a => wb f a = true ∧ ∀ b, b < 64 → XG 1 f a b) y 64) {m : Nat} : isMin (wb f) m ↔ wb y m = true := by
  constructor
  · rintro ⟨k1, k2⟩
    have m6 := wb_lt k1
    refine (h m m6).mpr ⟨m6, k1, fun b b6 => ?_⟩
    by_cases c : wb f b = true
    · by_cases s : Sb b m
      · exact Or.inl (k2 b (by omega) c s).symm
      · exact Or.inr (Or.inr (by rw [if_neg (by decide)]; exact s))
    · exact Or.inr (Or.inl c)
  · intro k
    obtain ⟨m6, k1, k2⟩ := (h m (wb_lt k)).mp k
    refine ⟨k1, fun x _ c s => ?_⟩
    rcases k2 x (wb_lt c) with z | z | z
    · exact z.symm
    · exact absurd c z
    · rw [if_neg (by decide)] at z; exact absurd s z
theorem max_w {f y : Int64} (h : TB (fun a => wb f a = true ∧ ∀ b, b < 64 → XG 0 f a b) y 64) {m : Nat} : isMax (wb f) m ↔ wb y m = true := by
  constructor
  · rintro ⟨k1, k2⟩
    have m6 := wb_lt k1
    refine (h m m6).mpr ⟨m6, k1, fun b b6 => ?_⟩
    by_cases c : wb f b = true
    · by_cases s : Sb m b
      · exact Or.inl (k2 b (by omega) c s).symm
      · exact Or.inr (Or.inr (by rw [if_pos rfl]; exact s))
    · exact Or.inr (Or.inl c)
  · intro k
    obtain ⟨m6, k1, k2⟩ := (h m (wb_lt k)).mp k
    refine ⟨k1, fun x _ c s => ?_⟩
    rcases k2 x (wb_lt c) with z | z | z
    · exact z.symm
    · exact absurd c z
    · rw [if_pos rfl] at z; exact absurd s z
theorem sem_min {f y : Int64} (h : TB (fun a => wb f a = true ∧ ∀ b, b < 64 → XG 1 f a b) y 64) (G : Nat → Bool) : opF 11 (wb f) G = wb y :=
  opF_w1 (by omega) (by omega) (fun m hm => (min_w h).symm) (fun m hm k => wb_lt ((min_w h).mp k))
theorem sem_max {f y : Int64} (h : TB (fun a => wb f a = true ∧ ∀ b, b < 64 → XG 0 f a b) y 64) (G : Nat → Bool) : opF 10 (wb f) G = wb y :=
  opF_w1 (by omega) (by omega) (fun m hm => (max_w h).symm) (fun m hm k => wb_lt ((max_w h).mp k))
/-- apart: meets all -/
theorem apart_i {F : Nat → Bool} {x : Nat} (hx : x < 4096) : apart F x = true ↔ ∀ a, a < 4096 → F a = true → ¬ a &&& x = 0 := by
  have tb : ∀ i, (4095 - x).testBit i = (decide (i < 12) && !x.testBit i) := fun i => by
    rw [show 4095 - x = 2 ^ 12 - (x + 1) by omega]
    exact Nat.testBit_two_pow_sub_succ hx i
  have sb : ∀ a, a < 4096 → (Sb a (4095 - x) ↔ a &&& x = 0) := fun a ha => by
    constructor
    · intro s
      apply Nat.eq_of_testBit_eq
      intro i
      rw [Nat.testBit_and, Nat.zero_testBit]
      cases q : a.testBit i
      · rfl
      · have := s i q
        rw [tb, Bool.and_eq_true, Bool.not_eq_true'] at this
        rw [this.2]; rfl
    · intro e i q
      rw [tb]
      have h1 : (a &&& x).testBit i = false := by rw [e, Nat.zero_testBit]
      rw [Nat.testBit_and, q, Bool.true_and] at h1
      have h2 : i < 12 := by
        rcases Nat.lt_or_ge i 12 with c | c
        · exact c
        · rw [Nat.testBit_lt_two_pow (Nat.lt_of_lt_of_le ha (Nat.pow_le_pow_right (n := 2) (by omega) c))] at q
          exact absurd q (by decide)
      rw [h1, decide_eq_true h2]; rfl
  unfold apart
  rw [bd_true]
  constructor
  · intro n a ha fa e
    exact n ⟨a, ha, fa, (sb a ha).mpr e⟩
  · rintro n ⟨a, ha, fa, s⟩
    exact n a ha fa ((sb a ha).mp s)
theorem hit_w {f x y : Int64} (h1 : TB (fun c => True ∧ ∀ b, b < 64 → HG f c b) x 64) (h2 : TB (fun a => wb x a = true ∧ ∀ b, b < 64 → XG 1 x a b) y 64) {m : Nat} (hm : m < 4096) : isHit (wb f) m ↔ wb y m = true := by
  have ap : ∀ c, c < 64 → (apart (wb f) c = true ↔ wb x c = true) := fun c hc => by
    rw [apart_i (by omega), h1 c hc]
    exact ⟨fun k => ⟨hc, trivial, fun b b6 fb => k b (by omega) fb⟩, fun k a _ fa => k.2.2 a (wb_lt fa) fa⟩
  have low : ∀ c, c < 4096 → apart (wb f) c = true → apart (wb f) (c % 64) = true := fun c hc k => by
    rw [apart_i (by omega)] at k ⊢
    intro a ha fa e
    apply k a ha fa
    apply Nat.eq_of_testBit_eq
    intro i
    have a6 := wb_lt fa
    have e2 : (a &&& c % 64).testBit i = false := by rw [e, Nat.zero_testBit]
    rw [Nat.testBit_and, show (64 : Nat) = 2 ^ 6 from rfl, Nat.testBit_mod_two_pow] at e2
    rw [Nat.testBit_and, Nat.zero_testBit]
    rcases Nat.lt_or_ge i 6 with c6 | c6
    · rw [decide_eq_true c6, Bool.true_and] at e2; exact e2
    · rw [Nat.testBit_lt_two_pow (Nat.lt_of_lt_of_le a6 (Nat.pow_le_pow_right (n := 2) (by omega) c6))]; rfl
  have sl : ∀ c, Sb (c % 64) c := fun c i k => by
    rw [show (64 : Nat) = 2 ^ 6 from rfl, Nat.testBit_mod_two_pow, Bool.and_eq_true] at k
    exact k.2
  have mn : isHit (wb f) m ↔ isMin (wb x) m := by
    constructor
    · rintro ⟨k1, k2⟩
      have e := k2 (m % 64) (by omega) (low m hm k1) (sl m)
      have m6 : m < 64 := by omega
      exact ⟨(ap m m6).mp k1, fun b _ xb s => k2 b (by have := wb_lt xb; omega) ((ap b (wb_lt xb)).mpr xb) s⟩
    · rintro ⟨k1, k2⟩
      have m6 := wb_lt k1
      refine ⟨(ap m m6).mpr k1, fun b b4 k s => ?_⟩
      have b6 : b < 64 := Nat.lt_of_le_of_lt (Sb_le s) m6
      exact k2 b b4 ((ap b b6).mp k) s
  rw [mn]; exact min_w h2
theorem sem_hit {f x y : Int64} (h1 : TB (fun c => True ∧ ∀ b, b < 64 → HG f c b) x 64) (h2 : TB (fun a => wb x a = true ∧ ∀ b, b < 64 → XG 1 x a b) y 64) (G : Nat → Bool) : opF 12 (wb f) G = wb y :=
  opF_w1 (by omega) (by omega) (fun m hm => (hit_w h1 h2 (by omega)).symm) (fun m hm k => wb_lt ((hit_w h1 h2 hm).mp k))
theorem sng0 : sngF 0 = wb 1 := by
  funext i
  rw [w_1]; rfl
theorem m2 : (1 : Int64) ^^^ (-1) = -2 := by decide
/-- a long's sets below m -/
def lowF (x : Int64) (m : Nat) : Nat → Bool := fun i => decide (i < m) && wb x i
theorem lowF_64 (x : Int64) : lowF x 64 = wb x := by
  funext i
  unfold lowF
  rcases Nat.lt_or_ge i 64 with c | c
  · rw [decide_eq_true c]; rfl
  · rw [wb_ge x c, Bool.and_false]
theorem lowF_0 (x : Int64) : lowF x 0 = zf := by
  funext i
  rfl
theorem lowF_skip {x : Int64} {m : Nat} (h : wb x m = false) : lowF x (m + 1) = lowF x m := by
  funext i
  unfold lowF
  by_cases c : i = m
  · rw [c, h, Bool.and_false, Bool.and_false]
  · congr 1
    exact decide_eq_decide.mpr (by omega)
theorem lowF_put {x : Int64} {m : Nat} (h : wb x m = true) (hm : m < 64) : opF 1 (lowF x m) (sngF m) = lowF x (m + 1) := by
  funext i
  apply Bool.eq_iff_iff.mpr
  unfold opF
  rw [Bool.and_eq_true, decide_eq_true_iff, bd_true]
  have e : i < 4096 → (modP 1 (lowF x m) (sngF m) i ↔ (lowF x m i = true ∨ sngF m i = true)) := fun hi => same2 (o := 1) (by omega) (by omega) hi
  unfold lowF sngF at *
  simp only [Bool.and_eq_true, decide_eq_true_iff] at *
  constructor
  · rintro ⟨a, b⟩
    rcases (e a).mp b with ⟨c1, c2⟩ | c
    · exact ⟨by omega, c2⟩
    · rw [c]; exact ⟨by omega, h⟩
  · rintro ⟨a, b⟩
    have := wb_lt b
    refine ⟨by omega, (e (by omega)).mpr ?_⟩
    by_cases c : i = m
    · exact Or.inr c
    · exact Or.inl ⟨by omega, b⟩
theorem sbs0 : sbsF (ixF 0) 12 = zf := by
  funext k
  show (decide (k < 4096) && (bd (Sb k (ixF 0)) && bd ((12 : Int32) = -1 ∨ nI (popN 12 k) = 12))) = false
  by_cases s : Sb k (ixF 0)
  · have k0 : k = 0 := by
      have := Sb_le s
      have e : ixF 0 = 0 := by decide
      omega
    rw [k0]
    have : ¬ ((12 : Int32) = -1 ∨ nI (popN 12 0) = 12) := by decide
    rw [bd_false.mpr this, Bool.and_false, Bool.and_false]
  · rw [bd_false.mpr s, Bool.false_and, Bool.and_false]
