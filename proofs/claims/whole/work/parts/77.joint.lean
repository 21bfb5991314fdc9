/-! ROWS: the class's parser and the model's come to the same. -/
def nF (o : Nat) : Nat := 2 * (20 - o) + 1
def nP (o : Nat) : Nat := 2 * (20 - o) + 2
def nS (o : Nat) : Nat := 2 * (20 - o) + 3
def RG (t : Nat → Int32) (tl n : Nat) (rel : Nat → Bool) (p b : Nat) (R : RS) : Prop := ∀ x, R = .inr x → p < x.1 ∧ p + x.2.length ≤ x.1 ∧ x.1 ≤ tl ∧ skp t tl x.1 = x.1 ∧ (∀ s, s ∈ x.2 → okStep n rel s) ∧ ∀ h, h + b ≤ 43 → okS 43 x.2 h (h + 1)
def RGL (t : Nat → Int32) (tl n : Nat) (rel : Nat → Bool) (p b : Nat) (R : RS) : Prop := ∀ x, R = .inr x → p ≤ x.1 ∧ p + x.2.length ≤ x.1 ∧ x.1 ≤ tl ∧ skp t tl x.1 = x.1 ∧ (∀ s, s ∈ x.2 → okStep n rel s) ∧ ∀ h, h + b ≤ 43 → okS 43 x.2 (h + 1) (h + 1)
section JP
variable (Γ : Gm) (rd tx fm kn vl mo tx2 pg ir : Nat) (t : Nat → Int32) (tl n : Nat) (rel : Nat → Bool)
def JFac (p o : Nat) : Prop := ∃ R, CN Γ MX6_readFactor (dF o) rd tx fm kn vl t tl (okf n rel) p [.ref rd, .int (nI o)] R ∧ MN Γ MX9_factor (dF o) mo tx2 pg ir t tl n rel p o R ∧ RG t tl n rel p (nF o) R
def JPrl (p o : Nat) : Prop := ∃ R, CL Γ MX6_readProduct (dPr o) rd tx fm kn vl t tl (okf n rel) p o R ∧ MLp Γ MX9_product (dPr o) mo tx2 pg ir t tl n rel p o R ∧ RGL t tl n rel p (nP o) R
def JPro (p o : Nat) : Prop := ∃ R, CN Γ MX6_readProduct (dPr o) rd tx fm kn vl t tl (okf n rel) p [.ref rd, .int (nI o)] R ∧ MN Γ MX9_product (dPr o) mo tx2 pg ir t tl n rel p o R ∧ RG t tl n rel p (nP o) R
def JSul (p o : Nat) : Prop := ∃ R, CL Γ MX6_readSum (dS o) rd tx fm kn vl t tl (okf n rel) p o R ∧ MLp Γ MX9_sum (dS o) mo tx2 pg ir t tl n rel p o R ∧ RGL t tl n rel p (nS o) R
def JSum (p o : Nat) : Prop := ∃ R, CN Γ MX6_readSum (dS o) rd tx fm kn vl t tl (okf n rel) p [.ref rd, .int (nI o)] R ∧ MN Γ MX9_sum (dS o) mo tx2 pg ir t tl n rel p o R ∧ RG t tl n rel p (nS o) R
variable {Γ rd tx fm kn vl mo tx2 pg ir t tl n rel}

theorem J_ploop {o : Nat} : ∀ m p, tl - p ≤ m → p ≤ tl → skp t tl p = p → (∀ q, p ≤ q → q ≤ tl → skp t tl q = q → JFac Γ rd tx fm kn vl mo tx2 pg ir t tl n rel q o) → JPrl Γ rd tx fm kn vl mo tx2 pg ir t tl n rel p o := by
  intro m
  induction m with
  | zero =>
    intro p hm hp hs' _
    have e : tkd t tl p = 11 := tkd_11.mpr (by omega)
    refine ⟨.inr (p, []), CL_end_Product (by rw [e]; decide), ML_end_product (by rw [e]; decide), fun x hx => ?_⟩
    rw [← Sum.inr.inj hx]
    exact ⟨Nat.le_refl _, Nat.le_refl _, hp, hs', fun s h => absurd h (by simp), fun h _ => rfl⟩
  | succ m ih =>
    intro p hm hp hs' hF
    by_cases h : isPrb (tkd t tl p) = true
    · have sy := sy_Product h
      have lt := (tkd_is sy rfl).1
      have nx := nxt_gt (t := t) lt
      obtain ⟨R2, c2, m2, g2⟩ := hF (nxt t tl p) (by omega) nx.2 (skp_nxt hp)
      cases R2 with
      | inl e =>
        refine ⟨.inl e, CL_go_Product (R3 := .inl 0) h c2 (fun x hx => absurd hx (by simp)) lt, ML_go_product (R3 := .inl 0) h m2 (fun x hx => absurd hx (by simp)), fun x hx => absurd hx (by simp)⟩
      | inr x =>
        obtain ⟨x1, x2, x3, x4, x5, x6⟩ := g2 x rfl
        obtain ⟨R3, c3, m3, g3⟩ := ih x.1 (by omega) x3 x4 (fun q a b c => hF q (by omega) b c)
        have bo : ∀ y, (Sum.inr x : RS) = .inr y → y = x := fun y hy => (Sum.inr.inj hy).symm
        refine ⟨preR (x.2 ++ [opc (tkd t tl p)]) R3, CL_go_Product (R3 := R3) h c2 (fun y hy => by rw [bo y hy]; exact ⟨x2, c3⟩) lt, ML_go_product (R3 := R3) h m2 (fun y hy => by rw [bo y hy]; exact ⟨x3, x4, m3⟩), fun y hy => ?_⟩
        cases R3 with
        | inl e => exact absurd hy (by show ¬ (Sum.inl e : RS) = .inr y; simp)
        | inr z =>
          have hy : (Sum.inr (z.1, (x.2 ++ [opc (tkd t tl p)]) ++ z.2) : RS) = .inr y := hy
          rw [← Sum.inr.inj hy]
          obtain ⟨z1, z2, z3, z4, z5, z6⟩ := g3 z rfl
          have ol := opc_lt (tkd t tl p)
          refine ⟨by show p ≤ z.1; omega, by simp only [List.length_append, List.length_singleton]; omega, z3, z4, fun s hs => ?_, fun h' hh => okS_app _ _ (okS_app _ _ (x6 (h' + 1) (by unfold nP at hh; unfold nF; omega)) (okS_b (by omega))) (z6 h' hh)⟩
          rcases List.mem_append.mp hs with hs | hs
          · rcases List.mem_append.mp hs with hs | hs
            · exact x5 s hs
            · rw [List.mem_singleton.mp hs]; exact Or.inl ⟨ol.1, by omega⟩
          · exact z5 s hs
    · have h : isPrb (tkd t tl p) = false := by
        cases q : isPrb (tkd t tl p)
        · rfl
        · exact absurd q h
      refine ⟨.inr (p, []), CL_end_Product h, ML_end_product h, fun x hx => ?_⟩
      rw [← Sum.inr.inj hx]
      exact ⟨Nat.le_refl _, Nat.le_refl _, hp, hs', fun s h => absurd h (by simp), fun h _ => rfl⟩
theorem J_product {p o : Nat} (hp : p ≤ tl) (hs' : skp t tl p = p) (hF : ∀ q, p ≤ q → q ≤ tl → skp t tl q = q → JFac Γ rd tx fm kn vl mo tx2 pg ir t tl n rel q o) : JPro Γ rd tx fm kn vl mo tx2 pg ir t tl n rel p o := by
  obtain ⟨R1, c1, m1, g1⟩ := hF p (Nat.le_refl _) hp hs'
  cases R1 with
  | inl e =>
    exact ⟨.inl e, CN_Product (R2 := .inl 0) c1 (fun x hx => absurd hx (by simp)), MN_product (R2 := .inl 0) m1 (fun x hx => absurd hx (by simp)), fun x hx => absurd hx (by simp)⟩
  | inr x =>
    obtain ⟨x1, x2, x3, x4, x5, x6⟩ := g1 x rfl
    obtain ⟨R3, c3, m3, g3⟩ := J_ploop _ x.1 (Nat.le_refl _) x3 x4 (fun q a b c => hF q (by omega) b c)
    have bo : ∀ y, (Sum.inr x : RS) = .inr y → y = x := fun y hy => (Sum.inr.inj hy).symm
    refine ⟨preR x.2 R3, CN_Product (R2 := R3) c1 (fun y hy => by rw [bo y hy]; exact ⟨x2, c3⟩), MN_product (R2 := R3) m1 (fun y hy => by rw [bo y hy]; exact ⟨x3, x4, m3⟩), fun y hy => ?_⟩
    cases R3 with
    | inl e => exact absurd hy (by show ¬ (Sum.inl e : RS) = .inr y; simp)
    | inr z =>
      have hy : (Sum.inr (z.1, x.2 ++ z.2) : RS) = .inr y := hy
      rw [← Sum.inr.inj hy]
      obtain ⟨z1, z2, z3, z4, z5, z6⟩ := g3 z rfl
      refine ⟨by show p < z.1; omega, by show p + (x.2 ++ z.2).length ≤ z.1; rw [List.length_append]; omega, z3, z4, fun s hs => ?_, fun h' hh => okS_app _ _ (x6 h' (by unfold nP at hh; unfold nF; omega)) (z6 h' hh)⟩
      rcases List.mem_append.mp hs with hs | hs
      · exact x5 s hs
      · exact z5 s hs

theorem J_sloop {o : Nat} : ∀ m p, tl - p ≤ m → p ≤ tl → skp t tl p = p → (∀ q, p ≤ q → q ≤ tl → skp t tl q = q → JPro Γ rd tx fm kn vl mo tx2 pg ir t tl n rel q o) → JSul Γ rd tx fm kn vl mo tx2 pg ir t tl n rel p o := by
  intro m
  induction m with
  | zero =>
    intro p hm hp hs' _
    have e : tkd t tl p = 11 := tkd_11.mpr (by omega)
    refine ⟨.inr (p, []), CL_end_Sum (by rw [e]; decide), ML_end_sum (by rw [e]; decide), fun x hx => ?_⟩
    rw [← Sum.inr.inj hx]
    exact ⟨Nat.le_refl _, Nat.le_refl _, hp, hs', fun s h => absurd h (by simp), fun h _ => rfl⟩
  | succ m ih =>
    intro p hm hp hs' hF
    by_cases h : isSumb (tkd t tl p) = true
    · have sy := sy_Sum h
      have lt := (tkd_is sy rfl).1
      have nx := nxt_gt (t := t) lt
      obtain ⟨R2, c2, m2, g2⟩ := hF (nxt t tl p) (by omega) nx.2 (skp_nxt hp)
      cases R2 with
      | inl e =>
        refine ⟨.inl e, CL_go_Sum (R3 := .inl 0) h c2 (fun x hx => absurd hx (by simp)) lt, ML_go_sum (R3 := .inl 0) h m2 (fun x hx => absurd hx (by simp)), fun x hx => absurd hx (by simp)⟩
      | inr x =>
        obtain ⟨x1, x2, x3, x4, x5, x6⟩ := g2 x rfl
        obtain ⟨R3, c3, m3, g3⟩ := ih x.1 (by omega) x3 x4 (fun q a b c => hF q (by omega) b c)
        have bo : ∀ y, (Sum.inr x : RS) = .inr y → y = x := fun y hy => (Sum.inr.inj hy).symm
        refine ⟨preR (x.2 ++ [opc (tkd t tl p)]) R3, CL_go_Sum (R3 := R3) h c2 (fun y hy => by rw [bo y hy]; exact ⟨x2, c3⟩) lt, ML_go_sum (R3 := R3) h m2 (fun y hy => by rw [bo y hy]; exact ⟨x3, x4, m3⟩), fun y hy => ?_⟩
        cases R3 with
        | inl e => exact absurd hy (by show ¬ (Sum.inl e : RS) = .inr y; simp)
        | inr z =>
          have hy : (Sum.inr (z.1, (x.2 ++ [opc (tkd t tl p)]) ++ z.2) : RS) = .inr y := hy
          rw [← Sum.inr.inj hy]
          obtain ⟨z1, z2, z3, z4, z5, z6⟩ := g3 z rfl
          have ol := opc_lt (tkd t tl p)
          refine ⟨by show p ≤ z.1; omega, by simp only [List.length_append, List.length_singleton]; omega, z3, z4, fun s hs => ?_, fun h' hh => okS_app _ _ (okS_app _ _ (x6 (h' + 1) (by unfold nS at hh; unfold nP; omega)) (okS_b (by omega))) (z6 h' hh)⟩
          rcases List.mem_append.mp hs with hs | hs
          · rcases List.mem_append.mp hs with hs | hs
            · exact x5 s hs
            · rw [List.mem_singleton.mp hs]; exact Or.inl ⟨ol.1, by omega⟩
          · exact z5 s hs
    · have h : isSumb (tkd t tl p) = false := by
        cases q : isSumb (tkd t tl p)
        · rfl
        · exact absurd q h
      refine ⟨.inr (p, []), CL_end_Sum h, ML_end_sum h, fun x hx => ?_⟩
      rw [← Sum.inr.inj hx]
      exact ⟨Nat.le_refl _, Nat.le_refl _, hp, hs', fun s h => absurd h (by simp), fun h _ => rfl⟩
theorem J_sum {p o : Nat} (hp : p ≤ tl) (hs' : skp t tl p = p) (hF : ∀ q, p ≤ q → q ≤ tl → skp t tl q = q → JPro Γ rd tx fm kn vl mo tx2 pg ir t tl n rel q o) : JSum Γ rd tx fm kn vl mo tx2 pg ir t tl n rel p o := by
  obtain ⟨R1, c1, m1, g1⟩ := hF p (Nat.le_refl _) hp hs'
  cases R1 with
  | inl e =>
    exact ⟨.inl e, CN_Sum (R2 := .inl 0) c1 (fun x hx => absurd hx (by simp)), MN_sum (R2 := .inl 0) m1 (fun x hx => absurd hx (by simp)), fun x hx => absurd hx (by simp)⟩
  | inr x =>
    obtain ⟨x1, x2, x3, x4, x5, x6⟩ := g1 x rfl
    obtain ⟨R3, c3, m3, g3⟩ := J_sloop _ x.1 (Nat.le_refl _) x3 x4 (fun q a b c => hF q (by omega) b c)
    have bo : ∀ y, (Sum.inr x : RS) = .inr y → y = x := fun y hy => (Sum.inr.inj hy).symm
    refine ⟨preR x.2 R3, CN_Sum (R2 := R3) c1 (fun y hy => by rw [bo y hy]; exact ⟨x2, c3⟩), MN_sum (R2 := R3) m1 (fun y hy => by rw [bo y hy]; exact ⟨x3, x4, m3⟩), fun y hy => ?_⟩
    cases R3 with
    | inl e => exact absurd hy (by show ¬ (Sum.inl e : RS) = .inr y; simp)
    | inr z =>
      have hy : (Sum.inr (z.1, x.2 ++ z.2) : RS) = .inr y := hy
      rw [← Sum.inr.inj hy]
      obtain ⟨z1, z2, z3, z4, z5, z6⟩ := g3 z rfl
      refine ⟨by show p < z.1; omega, by show p + (x.2 ++ z.2).length ≤ z.1; rw [List.length_append]; omega, z3, z4, fun s hs => ?_, fun h' hh => okS_app _ _ (x6 h' (by unfold nS at hh; unfold nP; omega)) (z6 h' hh)⟩
      rcases List.mem_append.mp hs with hs | hs
      · exact x5 s hs
      · exact z5 s hs

theorem RG_br {p o : Nat} {Rs : RS} (hp : p ≤ tl) (h : tkd t tl p = 40 → o < 20 → RG t tl n rel (nxt t tl p) (nS (o + 1)) Rs) : RG t tl n rel p (nF o) (brR t tl p o Rs) := by
  intro x hx
  unfold brR at hx
  split at hx
  · rename_i c
    have lt := (tkd_is (by decide) c.1).1
    have nx := nxt_gt (t := t) lt
    cases Rs with
    | inl e => exact absurd hx (by show ¬ (Sum.inl e : RS) = .inr x; simp)
    | inr y =>
      obtain ⟨y1, y2, y3, y4, y5, y6⟩ := h c.1 c.2 y rfl
      have hx : (if tkd t tl y.1 = 41 then (Sum.inr (nxt t tl y.1, y.2) : RS) else .inl y.1) = .inr x := hx
      split at hx
      · rename_i c2
        have lt2 := (tkd_is (by decide) c2).1
        have nx2 := nxt_gt (t := t) lt2
        rw [← Sum.inr.inj hx]
        exact ⟨by show p < nxt t tl y.1; omega, by show p + y.2.length ≤ nxt t tl y.1; omega, nx2.2, skp_nxt y3, y5, fun h' hh => y6 h' (by unfold nF at hh; unfold nS; omega)⟩
      · exact absurd hx (by simp)
  · exact absurd hx (by simp)
theorem RG_wd {p o : Nat} {R : RS} (hp : p < tl) (h : RG t tl n rel (nxt t tl p) (nF o) R) : RG t tl n rel p (nF o) (wdR t tl p R) := by
  intro x hx
  have nx := nxt_gt (t := t) hp
  unfold wdR at hx
  rcases fnW_r t p (tnd t tl p) with h0 | h0
  · rw [if_pos h0] at hx
    cases hm : mkW t (tnd t tl p - p) p 0 with
    | none => rw [hm] at hx; exact absurd hx (by simp)
    | some m =>
      rw [hm] at hx
      have ml := mkW_lt t _ _ _ _ (by omega) hm
      rw [← Sum.inr.inj hx]
      refine ⟨nx.1, by show p + 1 ≤ nxt t tl p; omega, nx.2, skp_nxt (by omega), fun s hs => ?_, fun h' hh => okS_1 (by omega) (by unfold nF at hh; omega)⟩
      rw [List.mem_singleton.mp hs]
      exact Or.inr (Or.inr (Or.inl ⟨by omega, by omega⟩))
  · rw [if_neg (by omega)] at hx
    cases R with
    | inl e => exact absurd hx (by show ¬ (Sum.inl e : RS) = .inr x; simp)
    | inr y =>
      obtain ⟨y1, y2, y3, y4, y5, y6⟩ := h y rfl
      have hx : (Sum.inr (y.1, y.2 ++ [fnW t p (tnd t tl p)]) : RS) = .inr x := hx
      rw [← Sum.inr.inj hx]
      refine ⟨by show p < y.1; omega, by show p + (y.2 ++ [fnW t p (tnd t tl p)]).length ≤ y.1; simp only [List.length_append, List.length_singleton]; omega, y3, y4, fun s hs => ?_, fun h' hh => okS_app _ _ (y6 h' hh) (okS_u (by omega) (by omega) (by omega))⟩
      rcases List.mem_append.mp hs with hs | hs
      · exact y5 s hs
      · rw [List.mem_singleton.mp hs]; exact Or.inl ⟨by omega, h0.2⟩
theorem RG_co {p o : Nat} (hp : p < tl) : RG t tl n rel p (nF o) (coR t tl p) := by
  intro x hx
  have nx := nxt_gt (t := t) hp
  unfold coR at hx
  split at hx
  · rw [← Sum.inr.inj hx]
    refine ⟨nx.1, by show p + 1 ≤ nxt t tl p; omega, nx.2, skp_nxt (by omega), fun s hs => ?_, fun h' hh => okS_1 (by split <;> omega) (by unfold nF at hh; omega)⟩
    rw [List.mem_singleton.mp hs]
    split
    · exact Or.inr (Or.inl rfl)
    · exact Or.inr (Or.inr (Or.inl ⟨by omega, by omega⟩))
  · exact absurd hx (by simp)
theorem RG_fn {p o : Nat} (hp : p < tl) : RG t tl n rel p (nF o) (fnR t tl (okf n rel) (nxt t tl p)) := by
  intro x hx
  have nx := nxt_gt (t := t) hp
  unfold fnR at hx
  split at hx
  · rename_i c
    have nx2 := nxt_gt (t := t) c.1.1
    have ck := c.2.2.2
    generalize nvW t (tnd t tl (nxt t tl p) - nxt t tl p) (nxt t tl p) 0 = v at hx ck
    rw [← Sum.inr.inj hx]
    refine ⟨by show p < nxt t tl (nxt t tl p); omega, by show p + 1 ≤ nxt t tl (nxt t tl p); omega, nx2.2, skp_nxt nx.2, fun s hs => ?_, fun h' hh => okS_1 (by omega) (by unfold nF at hh; omega)⟩
    rw [List.mem_singleton.mp hs]
    unfold okf at ck
    rw [Bool.and_eq_true, decide_eq_true_iff, Bool.not_eq_true'] at ck
    exact Or.inr (Or.inr (Or.inr ⟨v, rfl, ck.1, ck.2⟩))
  · exact absurd hx (by simp)
theorem J_fac : ∀ m p o, tl - p ≤ m → p ≤ tl → skp t tl p = p → o ≤ 20 → JFac Γ rd tx fm kn vl mo tx2 pg ir t tl n rel p o := by
  intro m
  induction m with
  | zero =>
    intro p o hm hp hs' ho
    have e : tkd t tl p = 11 := tkd_11.mpr (by omega)
    refine ⟨faR t tl (okf n rel) p o (.inl 0) (.inl 0), CN_fa hp ho (fun h => absurd h (by rw [e]; decide)) (fun h => absurd h (by rw [e]; decide)) (fun h => absurd h (by rw [e]; decide)), MN_fa hp ho (fun h => absurd h (by rw [e]; decide)) (fun x hx => absurd hx (by simp)) (fun h => absurd h (by rw [e]; decide)) (fun x hx => absurd hx (by simp)), fun x hx => ?_⟩
    unfold faR at hx
    rw [e, if_neg (by decide), if_neg (by decide), if_neg (by decide), if_neg (by decide)] at hx
    exact absurd hx (by simp)
  | succ m ih =>
    intro p o hm hp hs' ho
    have js : ∀ q, p < q → q ≤ tl → skp t tl q = q → o < 20 → JSum Γ rd tx fm kn vl mo tx2 pg ir t tl n rel q (o + 1) := fun q h1 h2 h3 h4 =>
      J_sum h2 h3 (fun q2 a b c => J_product b c (fun q3 a2 b2 c2 => ih q3 (o + 1) (by omega) b2 c2 (by omega)))
    have hA : ∃ Rs, (∀ x, Rs = .inr x → x.1 ≤ tl ∧ skp t tl x.1 = x.1) ∧ (tkd t tl p = 40 → o < 20 → CN Γ MX6_readSum (dS (o + 1)) rd tx fm kn vl t tl (okf n rel) (nxt t tl p) [.ref rd, .int (nI (o + 1))] Rs ∧ MN Γ MX9_sum (dS (o + 1)) mo tx2 pg ir t tl n rel (nxt t tl p) (o + 1) Rs ∧ RG t tl n rel (nxt t tl p) (nS (o + 1)) Rs) := by
      by_cases c : tkd t tl p = 40 ∧ o < 20
      · have lt := (tkd_is (by decide) c.1).1
        have nx := nxt_gt (t := t) lt
        obtain ⟨R, a, b, g⟩ := js (nxt t tl p) nx.1 nx.2 (skp_nxt hp) c.2
        exact ⟨R, fun x hx => ⟨(g x hx).2.2.1, (g x hx).2.2.2.1⟩, fun _ _ => ⟨a, b, g⟩⟩
      · exact ⟨.inl 0, fun x hx => absurd hx (by simp), fun a b => absurd ⟨a, b⟩ c⟩
    have hB : ∃ Rw, (∀ x, Rw = .inr x → x.1 ≤ tl ∧ skp t tl x.1 = x.1) ∧ (tkd t tl p = 12 → tkd t tl (nxt t tl p) = 40 → o < 20 → CN Γ MX6_readSum (dS (o + 1)) rd tx fm kn vl t tl (okf n rel) (nxt t tl (nxt t tl p)) [.ref rd, .int (nI (o + 1))] Rw ∧ MN Γ MX9_sum (dS (o + 1)) mo tx2 pg ir t tl n rel (nxt t tl (nxt t tl p)) (o + 1) Rw ∧ RG t tl n rel (nxt t tl (nxt t tl p)) (nS (o + 1)) Rw) := by
      by_cases c : tkd t tl p = 12 ∧ tkd t tl (nxt t tl p) = 40 ∧ o < 20
      · have lt := (tkd_12.mp c.1).1
        have nx := nxt_gt (t := t) lt
        have lt2 := (tkd_is (by decide) c.2.1).1
        have nx2 := nxt_gt (t := t) lt2
        obtain ⟨R, a, b, g⟩ := js (nxt t tl (nxt t tl p)) (by omega) nx2.2 (skp_nxt nx.2) c.2.2
        exact ⟨R, fun x hx => ⟨(g x hx).2.2.1, (g x hx).2.2.2.1⟩, fun _ _ _ => ⟨a, b, g⟩⟩
      · exact ⟨.inl 0, fun x hx => absurd hx (by simp), fun a b d => absurd ⟨a, b, d⟩ c⟩
    obtain ⟨Rs, s1, s2⟩ := hA
    obtain ⟨Rw, w1, w2⟩ := hB
    have rb : tkd t tl p = 12 → RG t tl n rel (nxt t tl p) (nF o) (brR t tl (nxt t tl p) o Rw) := fun h => RG_br (nxt_le hp) (fun a b => (w2 h a b).2.2)
    refine ⟨faR t tl (okf n rel) p o Rs Rw, CN_fa hp ho (fun a b => (s2 a b).1) (fun a b c => (w2 a b c).1) (fun h x hx => (rb h x hx).2.1), MN_fa hp ho (fun a b => (s2 a b).2.1) s1 (fun a b c => (w2 a b c).2.1) w1, ?_⟩
    by_cases e1 : tkd t tl p = 12
    · unfold faR; rw [if_pos e1]
      exact RG_wd (tkd_12.mp e1).1 (rb e1)
    · by_cases e2 : tkd t tl p = 13
      · unfold faR; rw [if_neg e1, if_pos e2]
        exact RG_co (tkd_13.mp e2).1
      · by_cases e3 : tkd t tl p = 35
        · unfold faR; rw [if_neg e1, if_neg e2, if_pos e3]
          exact RG_fn (tkd_is (by decide) e3).1
        · by_cases e4 : tkd t tl p = 40
          · unfold faR; rw [if_neg e1, if_neg e2, if_neg e3, if_pos e4]
            exact RG_br hp (fun a b => (s2 a b).2.2)
          · unfold faR; rw [if_neg e1, if_neg e2, if_neg e3, if_neg e4]
            exact fun x hx => absurd hx (by simp)
/-- what a whole text comes to -/
theorem J_all : JSum Γ rd tx fm kn vl mo tx2 pg ir t tl n rel (skp t tl 0) 0 :=
  J_sum (scn_le (Nat.zero_le _)) (scn_idem (Nat.zero_le _)) (fun q _ b c => J_product b c (fun q3 _ b2 c2 => J_fac _ q3 0 (Nat.le_refl _) b2 c2 (by omega)))
end JP
