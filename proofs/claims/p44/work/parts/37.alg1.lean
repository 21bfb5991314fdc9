/-! ROWS of Algebra: the simple operations. -/
def Chg (I J : Nat → Prop) (σ σ' : AH) : Prop := hc σ' = hc σ ∧ hv σ' = hv σ ∧ hs σ' = hs σ ∧ gr σ' = gr σ ∧ gd σ' = gd σ ∧ (∀ a, ¬ I a → gi σ' a = gi σ a) ∧ (∀ a, ¬ J a → gj σ' a = gj σ a)
theorem Chg.refl (I J : Nat → Prop) (σ : AH) : Chg I J σ σ := ⟨rfl, rfl, rfl, rfl, rfl, fun _ _ => rfl, fun _ _ => rfl⟩
theorem Chg.trans {I J : Nat → Prop} {σ σ1 σ2 : AH} (h : Chg I J σ σ1) (k : Chg I J σ1 σ2) : Chg I J σ σ2 :=
  ⟨k.1.trans h.1, k.2.1.trans h.2.1, k.2.2.1.trans h.2.2.1, k.2.2.2.1.trans h.2.2.2.1, k.2.2.2.2.1.trans h.2.2.2.2.1, fun a ha => (k.2.2.2.2.2.1 a ha).trans (h.2.2.2.2.2.1 a ha), fun a ha => (k.2.2.2.2.2.2 a ha).trans (h.2.2.2.2.2.2 a ha)⟩
theorem Chg.mono {I J I' J' : Nat → Prop} {σ σ' : AH} (h : Chg I J σ σ') (hI : ∀ a, I a → I' a) (hJ : ∀ a, J a → J' a) : Chg I' J' σ σ' :=
  ⟨h.1, h.2.1, h.2.2.1, h.2.2.2.1, h.2.2.2.2.1, fun a ha => h.2.2.2.2.2.1 a (fun z => ha (hI a z)), fun a ha => h.2.2.2.2.2.2 a (fun z => ha (hJ a z))⟩
theorem Chg.rowJ {I J : Nat → Prop} (σ : AH) {a : Nat} (f : Nat → Int64) (h : J a) : Chg I J σ (rowJ σ a f) :=
  ⟨rfl, rfl, rfl, rfl, rfl, fun _ _ => rfl, fun b hb => gj_rown σ f (fun z => hb (z ▸ h))⟩
theorem Chg.rowI {I J : Nat → Prop} (σ : AH) {a : Nat} (f : Nat → Int32) (h : I a) : Chg I J σ (rowI σ a f) :=
  ⟨rfl, rfl, rfl, rfl, rfl, fun b hb => gi_rown σ f (fun z => hb (z ▸ h)), fun _ _ => rfl⟩
theorem Chg.gh {I J : Nat → Prop} {σ σ' : AH} (h : Chg I J σ σ') {a : Nat} {x : Option (Nat × Nat)} (e : hs σ a = x) : hs σ' a = x := by rw [h.2.2.1]; exact e
theorem Chg.gg {I J : Nat → Prop} {σ σ' : AH} (h : Chg I J σ σ') {a k : Nat} {x : Option Nat} (e : gr σ a k = x) : gr σ' a k = x := by rw [h.2.2.2.1]; exact e
theorem Chg.gi {I J : Nat → Prop} {σ σ' : AH} (h : Chg I J σ σ') {a : Nat} (e : ¬ I a) : gi σ' a = gi σ a := h.2.2.2.2.2.1 a e
theorem Chg.gj {I J : Nat → Prop} {σ σ' : AH} (h : Chg I J σ σ') {a : Nat} (e : ¬ J a) : gj σ' a = gj σ a := h.2.2.2.2.2.2 a e
/-- a loop that changes a row word by word by a second row -/
theorem addAll_R {Γ : Gm} {d : Nat} {σ : AH} {a b n m : Nat} (ha : hs σ a = some (23, n)) (hb : hs σ b = some (23, m)) (hn : 64 ≤ n) (hm : 64 ≤ m) (hne : b ≠ a) : RV Γ d MX0_addAll [.ref a, .ref b] σ (fun σ' => ∃ f, σ' = rowJ σ a f ∧ ∀ x, x < 4096 → bs f x = (bs (gj σ a) x || bs (gj σ b) x)) := by
  refine eX0_addAll ?_
  have L : ∀ k, k ≤ 64 → EV Γ MX0_addAll d 2 [some (.ref a), some (.ref b), some (.int (nI k))] [] (rowJ σ a (fl (fun w => gj σ a w ||| gj σ b w) (gj σ a) k)) (fun o σ' => o = .inl none ∧ ∃ f, σ' = rowJ σ a f ∧ ∀ x, x < 4096 → bs f x = (bs (gj σ a) x || bs (gj σ b) x)) := by
    refine upto 64 ?_ (fun k hk ih => ?_)
    · refine gX0_addAll_2 ⟨fun _ => ⟨rfl, _, rfl, fun x hx => ?_⟩, fun c => absurd ((c64le (by omega)).mpr (by omega)) c⟩
      rw [bs_fl hx]; exact w_or _ _ _
    · refine gX0_addAll_2 ⟨fun c => absurd ((c64le (by omega)).mp c) (by omega), fun _ => ⟨n, ha, k, IXn (by omega) (by omega), m, hb, k, IXn (by omega) (by omega), fun σ10 h10 => ?_⟩⟩
      rw [gj_row, fl_out (Nat.le_refl k), gj_rown _ _ hne, fillJ _ _ _ _ _ _ rfl] at h10
      rw [h10, nI_1]; exact ih
  have := L 0 (by omega)
  rw [rowJ_fl0] at this
  exact this
theorem keepAll_R {Γ : Gm} {d : Nat} {σ : AH} {a b n m : Nat} (ha : hs σ a = some (23, n)) (hb : hs σ b = some (23, m)) (hn : 64 ≤ n) (hm : 64 ≤ m) (hne : b ≠ a) : RV Γ d MX0_keepAll [.ref a, .ref b] σ (fun σ' => ∃ f, σ' = rowJ σ a f ∧ ∀ x, x < 4096 → bs f x = (bs (gj σ a) x && bs (gj σ b) x)) := by
  refine eX0_keepAll ?_
  have L : ∀ k, k ≤ 64 → EV Γ MX0_keepAll d 2 [some (.ref a), some (.ref b), some (.int (nI k))] [] (rowJ σ a (fl (fun w => gj σ a w &&& gj σ b w) (gj σ a) k)) (fun o σ' => o = .inl none ∧ ∃ f, σ' = rowJ σ a f ∧ ∀ x, x < 4096 → bs f x = (bs (gj σ a) x && bs (gj σ b) x)) := by
    refine upto 64 ?_ (fun k hk ih => ?_)
    · refine gX0_keepAll_2 ⟨fun _ => ⟨rfl, _, rfl, fun x hx => ?_⟩, fun c => absurd ((c64le (by omega)).mpr (by omega)) c⟩
      rw [bs_fl hx]; exact w_and _ _ _
    · refine gX0_keepAll_2 ⟨fun c => absurd ((c64le (by omega)).mp c) (by omega), fun _ => ⟨n, ha, k, IXn (by omega) (by omega), m, hb, k, IXn (by omega) (by omega), fun σ10 h10 => ?_⟩⟩
      rw [gj_row, fl_out (Nat.le_refl k), gj_rown _ _ hne, fillJ _ _ _ _ _ _ rfl] at h10
      rw [h10, nI_1]; exact ih
  have := L 0 (by omega)
  rw [rowJ_fl0] at this
  exact this
theorem removeAll_R {Γ : Gm} {d : Nat} {σ : AH} {a b n m : Nat} (ha : hs σ a = some (23, n)) (hb : hs σ b = some (23, m)) (hn : 64 ≤ n) (hm : 64 ≤ m) (hne : b ≠ a) : RV Γ d MX0_removeAll [.ref a, .ref b] σ (fun σ' => ∃ f, σ' = rowJ σ a f ∧ ∀ x, x < 4096 → bs f x = (bs (gj σ a) x && !bs (gj σ b) x)) := by
  refine eX0_removeAll ?_
  have L : ∀ k, k ≤ 64 → EV Γ MX0_removeAll d 2 [some (.ref a), some (.ref b), some (.int (nI k))] [] (rowJ σ a (fl (fun w => gj σ a w &&& (gj σ b w ^^^ (-1))) (gj σ a) k)) (fun o σ' => o = .inl none ∧ ∃ f, σ' = rowJ σ a f ∧ ∀ x, x < 4096 → bs f x = (bs (gj σ a) x && !bs (gj σ b) x)) := by
    refine upto 64 ?_ (fun k hk ih => ?_)
    · refine gX0_removeAll_2 ⟨fun _ => ⟨rfl, _, rfl, fun x hx => ?_⟩, fun c => absurd ((c64le (by omega)).mpr (by omega)) c⟩
      rw [bs_fl hx]
      show wb _ _ = _
      rw [w_and, w_not _ (Nat.mod_lt _ (by decide))]; rfl
    · refine gX0_removeAll_2 ⟨fun c => absurd ((c64le (by omega)).mp c) (by omega), fun _ => ⟨n, ha, k, IXn (by omega) (by omega), m, hb, k, IXn (by omega) (by omega), fun σ10 h10 => ?_⟩⟩
      rw [gj_row, fl_out (Nat.le_refl k), gj_rown _ _ hne, fillJ _ _ _ _ _ _ rfl] at h10
      rw [h10, nI_1]; exact ih
  have := L 0 (by omega)
  rw [rowJ_fl0] at this
  exact this
/-- the algebra object and its four arrays -/
def AlgOK (σ : AH) (al f1 f2 sp st : Nat) : Prop := hs σ al = some (0, 4) ∧ gr σ al 0 = some f1 ∧ gr σ al 1 = some f2 ∧ gr σ al 2 = some sp ∧ gr σ al 3 = some st ∧ hs σ f1 = some (22, 4096) ∧ hs σ f2 = some (22, 4096) ∧ hs σ sp = some (23, 64) ∧ hs σ st = some (23, 64) ∧ f1 ≠ f2 ∧ sp ≠ st
theorem AlgOK.chg {I J : Nat → Prop} {σ σ' : AH} {al f1 f2 sp st : Nat} (h : AlgOK σ al f1 f2 sp st) (c : Chg I J σ σ') : AlgOK σ' al f1 f2 sp st := by
  unfold AlgOK at *
  rw [c.2.2.1, c.2.2.2.1]
  exact h
def aI (f1 f2 : Nat) : Nat → Prop := fun a => a = f1 ∨ a = f2
def aJ (sp st row : Nat) : Nat → Prop := fun a => a = sp ∨ a = st ∨ a = row
theorem fill0_bs (g : Nat → Int64) {x : Nat} (hx : x < 4096) : bs (fl (fun _ => 0) g 64) x = false := by
  rw [bs_fl hx]; exact w_zero _
theorem up_step {F : Nat → Bool} {m : Nat} (hm : m < 4096) : (∃ e, e < 12 ∧ m.testBit e = false ∧ hasUp F (m + 2 ^ e)) ↔ ∃ x, x < 4096 ∧ F x = true ∧ Sb m x ∧ x ≠ m := by
  constructor
  · rintro ⟨e, he, hb, x, hx, hf, hs⟩
    refine ⟨x, hx, hf, fun i hi => hs i (by rw [tb_add hb, hi]; rfl), fun z => ?_⟩
    have := hs e (by rw [tb_add hb]; simp)
    rw [z, hb] at this; exact absurd this (by decide)
  · rintro ⟨x, hx, hf, hs, hne⟩
    have : ∃ e, e < 12 ∧ x.testBit e ≠ m.testBit e := by
      by_cases c : ∃ e, e < 12 ∧ x.testBit e ≠ m.testBit e
      · exact c
      · exact absurd (T_12 hx hm (fun i hi => by by_cases q : x.testBit i = m.testBit i; exact q; exact absurd ⟨i, hi, q⟩ c)) hne
    obtain ⟨e, he, hd⟩ := this
    have hb : m.testBit e = false := ts_nt (fun z => hd (by rw [z]; exact hs e z))
    refine ⟨e, he, hb, x, hx, hf, fun i hi => ?_⟩
    rw [tb_add hb, Bool.or_eq_true] at hi
    rcases hi with hi | hi
    · exact hs i hi
    · have : i = e := of_decide_eq_true hi
      rw [this]; exact ts_nf (fun z => hd (by rw [z, hb]))
theorem dn_step {F : Nat → Bool} {m : Nat} (hm : m < 4096) : (∃ e, e < 12 ∧ m.testBit e = true ∧ hasDn F (m - 2 ^ e)) ↔ ∃ x, x < 4096 ∧ F x = true ∧ Sb x m ∧ x ≠ m := by
  constructor
  · rintro ⟨e, he, hb, x, hx, hf, hs⟩
    have S := (tb_sub hb).2
    refine ⟨x, hx, hf, fun i hi => ?_, fun z => ?_⟩
    · have := hs i hi
      rw [S, Bool.and_eq_true] at this; exact this.1
    · have := hs e (by rw [z]; exact hb)
      rw [S] at this
      simp at this
  · rintro ⟨x, hx, hf, hs, hne⟩
    have : ∃ e, e < 12 ∧ x.testBit e ≠ m.testBit e := by
      by_cases c : ∃ e, e < 12 ∧ x.testBit e ≠ m.testBit e
      · exact c
      · exact absurd (T_12 hx hm (fun i hi => by by_cases q : x.testBit i = m.testBit i; exact q; exact absurd ⟨i, hi, q⟩ c)) hne
    obtain ⟨e, he, hd⟩ := this
    have hxe : x.testBit e = false := ts_nt (fun z => hd (by rw [z]; exact (hs e z).symm))
    have hb : m.testBit e = true := ts_nf (fun z => hd (by rw [z, hxe]))
    refine ⟨e, he, hb, x, hx, hf, fun i hi => ?_⟩
    rw [(tb_sub hb).2, hs i hi]
    have : i ≠ e := fun z => by rw [z, hxe] at hi; exact absurd hi (by decide)
    simp [this]
theorem hasUp_congr {F G : Nat → Bool} {m : Nat} (h : ∀ x, x < 4096 → F x = G x) : hasUp F m ↔ hasUp G m := ⟨fun ⟨x, a, b, c⟩ => ⟨x, a, by rw [← h x a]; exact b, c⟩, fun ⟨x, a, b, c⟩ => ⟨x, a, by rw [h x a]; exact b, c⟩⟩
theorem hasDn_congr {F G : Nat → Bool} {m : Nat} (h : ∀ x, x < 4096 → F x = G x) : hasDn F m ↔ hasDn G m := ⟨fun ⟨x, a, b, c⟩ => ⟨x, a, by rw [← h x a]; exact b, c⟩, fun ⟨x, a, b, c⟩ => ⟨x, a, by rw [h x a]; exact b, c⟩⟩
theorem maximal_R {Γ : Gm} {d : Nat} {σ : AH} {al f1 f2 sp st row : Nat} (A : AlgOK σ al f1 f2 sp st) (hr : hs σ row = some (23, 64)) (h1 : row ≠ sp) (h2 : row ≠ st) (hd : 3 ≤ d) : RV Γ d MX0_keepMaximal [.ref al, .ref row] σ (fun σ' => Chg (aI f1 f2) (aJ sp st row) σ σ' ∧ ∀ m, m < 4096 → (bs (gj σ' row) m = true ↔ isMax (bs (gj σ row)) m)) := by
  obtain ⟨A0, A1, A2, A3, A4, A5, A6, A7, A8, A9, A10⟩ := A
  refine eX0_keepMaximal ⟨A0, sp, A3, ?_⟩
  refine CV.of (d2 := 2) (copy_R hr A7 (by omega) (by omega) (by omega)) (by omega) (fun σ1 hw e1 => ?_)
  have C1 : Chg (aI f1 f2) (aJ sp st row) σ σ1 := by rw [e1]; exact Chg.rowJ _ _ (Or.inl rfl)
  refine ⟨C1.gh A0, sp, C1.gg A3, ?_⟩
  refine CV.of (d2 := 2) (lower_R (C1.gh A7) (by omega) (by omega)) (by omega) (fun σ2 hw e2 => ?_)
  obtain ⟨f, e2, hf⟩ := e2
  have C2 : Chg (aI f1 f2) (aJ sp st row) σ σ2 := by rw [e2]; exact C1.trans (Chg.rowJ _ _ (Or.inl rfl))
  refine ⟨C2.gh A0, st, C2.gg A4, ?_⟩
  refine CV.of (d2 := 2) (fill_R 0 (C2.gh A8) (by omega)) (by omega) (fun σ3 hw e3 => ?_)
  have C3 : Chg (aI f1 f2) (aJ sp st row) σ σ3 := by rw [e3]; exact C2.trans (Chg.rowJ _ _ (Or.inr (Or.inl rfl)))
  have g3 : gj σ3 sp = f := by rw [e3, gj_rown _ _ A10, e2, gj_row]
  have r3 : gj σ3 row = gj σ row := by rw [e3, gj_rown _ _ h2, e2, gj_rown _ _ h1, e1, gj_rown _ _ h1]
  have s3 : ∀ x, x < 4096 → bs (gj σ3 st) x = false := fun x hx => by rw [e3, gj_row, fill0_bs _ hx]
  have hf' : ∀ m, m < 4096 → (bs f m = true ↔ hasUp (bs (gj σ row)) m) := by
    intro m hm
    rw [hf m hm, e1, gj_row]
    exact hasUp_congr (fun x hx => bs_fl hx)
  clear hf
  have L : ∀ e, e ≤ 12 → ∀ τ, Chg (aI f1 f2) (aJ sp st row) σ τ → gj τ sp = f → gj τ row = gj σ row → (∀ m, m < 4096 → (bs (gj τ st) m = true ↔ ∃ k, k < e ∧ m.testBit k = false ∧ hasUp (bs (gj σ row)) (m + 2 ^ k))) → EV Γ MX0_keepMaximal d 25 [some (.ref al), some (.ref row), some (.int (nI e))] [] τ (fun o σ' => o = .inl none ∧ Chg (aI f1 f2) (aJ sp st row) σ σ' ∧ ∀ m, m < 4096 → (bs (gj σ' row) m = true ↔ isMax (bs (gj σ row)) m)) := by
    refine upto 12 ?_ (fun e he ih => ?_)
    · intro τ C g r s
      refine gX0_keepMaximal_25 ⟨fun _ => ⟨C.gh A0, st, C.gg A4, ?_⟩, fun c => absurd ((c12le (by omega)).mpr (by omega)) c⟩
      refine CV.of (d2 := 2) (removeAll_R (C.gh hr) (C.gh A8) (by omega) (by omega) (Ne.symm h2)) (by omega) (fun σ5 hw e5 => ?_)
      obtain ⟨f5, e5, h5⟩ := e5
      refine ⟨rfl, by rw [e5]; exact C.trans (Chg.rowJ _ _ (Or.inr (Or.inr rfl))), fun m hm => ?_⟩
      rw [e5, gj_row, h5 m hm, r, Bool.and_eq_true, Bool.not_eq_true']
      have S := s m hm
      rw [up_step hm] at S
      refine and_congr_right (fun hF => ?_)
      constructor
      · intro z x hx hxf hs
        by_cases q : x = m
        · exact q
        · rw [S.mpr ⟨x, hx, hxf, hs, q⟩] at z; exact absurd z (by decide)
      · intro z
        refine ts_nt (fun q => ?_)
        obtain ⟨x, hx, hxf, hs, hne⟩ := S.mp q
        exact hne (z x hx hxf hs)
    · intro τ C g r s
      refine gX0_keepMaximal_25 ⟨fun c => absurd ((c12le (by omega)).mp c) (by omega), fun _ => ⟨C.gh A0, sp, C.gg A3, st, C.gg A4, ?_⟩⟩
      refine CV.of (d2 := 2) (takeOut_R (C.gh A7) (C.gh A8) (by omega) (by omega) he) (by omega) (fun σ12 hw e12 => ?_)
      rw [nI_1]
      refine ih σ12 (by rw [e12]; exact C.trans (Chg.rowJ _ _ (Or.inr (Or.inl rfl)))) (by rw [e12, gj_rown _ _ A10, g]) (by rw [e12, gj_rown _ _ h2, r]) (fun m hm => ?_)
      rw [e12, gj_row, bs_fl hm, bs_toF he _ _ hm, Bool.or_eq_true, Bool.and_eq_true, s m hm, Bool.not_eq_true', g]
      constructor
      · rintro (⟨k, hk, z⟩ | ⟨hb, z⟩)
        · exact ⟨k, by omega, z⟩
        · exact ⟨e, by omega, hb, (hf' _ (add_lt hm he hb)).mp z⟩
      · rintro ⟨k, hk, hb, z⟩
        by_cases q : k = e
        · rw [q] at hb z; exact Or.inr ⟨hb, (hf' _ (add_lt hm he hb)).mpr z⟩
        · exact Or.inl ⟨k, by omega, hb, z⟩
  exact L 0 (by omega) σ3 C3 g3 r3 (fun m hm => by rw [s3 m hm]; exact ⟨fun z => absurd z (by decide), fun ⟨k, hk, _⟩ => absurd hk (by omega)⟩)
theorem minimal_R {Γ : Gm} {d : Nat} {σ : AH} {al f1 f2 sp st row : Nat} (A : AlgOK σ al f1 f2 sp st) (hr : hs σ row = some (23, 64)) (h1 : row ≠ sp) (h2 : row ≠ st) (hd : 3 ≤ d) : RV Γ d MX0_keepMinimal [.ref al, .ref row] σ (fun σ' => Chg (aI f1 f2) (aJ sp st row) σ σ' ∧ ∀ m, m < 4096 → (bs (gj σ' row) m = true ↔ isMin (bs (gj σ row)) m)) := by
  obtain ⟨A0, A1, A2, A3, A4, A5, A6, A7, A8, A9, A10⟩ := A
  refine eX0_keepMinimal ⟨A0, sp, A3, ?_⟩
  refine CV.of (d2 := 2) (copy_R hr A7 (by omega) (by omega) (by omega)) (by omega) (fun σ1 hw e1 => ?_)
  have C1 : Chg (aI f1 f2) (aJ sp st row) σ σ1 := by rw [e1]; exact Chg.rowJ _ _ (Or.inl rfl)
  refine ⟨C1.gh A0, sp, C1.gg A3, ?_⟩
  refine CV.of (d2 := 2) (raise_R (C1.gh A7) (by omega) (by omega)) (by omega) (fun σ2 hw e2 => ?_)
  obtain ⟨f, e2, hf⟩ := e2
  have C2 : Chg (aI f1 f2) (aJ sp st row) σ σ2 := by rw [e2]; exact C1.trans (Chg.rowJ _ _ (Or.inl rfl))
  refine ⟨C2.gh A0, st, C2.gg A4, ?_⟩
  refine CV.of (d2 := 2) (fill_R 0 (C2.gh A8) (by omega)) (by omega) (fun σ3 hw e3 => ?_)
  have C3 : Chg (aI f1 f2) (aJ sp st row) σ σ3 := by rw [e3]; exact C2.trans (Chg.rowJ _ _ (Or.inr (Or.inl rfl)))
  have g3 : gj σ3 sp = f := by rw [e3, gj_rown _ _ A10, e2, gj_row]
  have r3 : gj σ3 row = gj σ row := by rw [e3, gj_rown _ _ h2, e2, gj_rown _ _ h1, e1, gj_rown _ _ h1]
  have s3 : ∀ x, x < 4096 → bs (gj σ3 st) x = false := fun x hx => by rw [e3, gj_row, fill0_bs _ hx]
  have hf' : ∀ m, m < 4096 → (bs f m = true ↔ hasDn (bs (gj σ row)) m) := by
    intro m hm
    rw [hf m hm, e1, gj_row]
    exact hasDn_congr (fun x hx => bs_fl hx)
  clear hf
  have L : ∀ e, e ≤ 12 → ∀ τ, Chg (aI f1 f2) (aJ sp st row) σ τ → gj τ sp = f → gj τ row = gj σ row → (∀ m, m < 4096 → (bs (gj τ st) m = true ↔ ∃ k, k < e ∧ m.testBit k = true ∧ hasDn (bs (gj σ row)) (m - 2 ^ k))) → EV Γ MX0_keepMinimal d 25 [some (.ref al), some (.ref row), some (.int (nI e))] [] τ (fun o σ' => o = .inl none ∧ Chg (aI f1 f2) (aJ sp st row) σ σ' ∧ ∀ m, m < 4096 → (bs (gj σ' row) m = true ↔ isMin (bs (gj σ row)) m)) := by
    refine upto 12 ?_ (fun e he ih => ?_)
    · intro τ C g r s
      refine gX0_keepMinimal_25 ⟨fun _ => ⟨C.gh A0, st, C.gg A4, ?_⟩, fun c => absurd ((c12le (by omega)).mpr (by omega)) c⟩
      refine CV.of (d2 := 2) (removeAll_R (C.gh hr) (C.gh A8) (by omega) (by omega) (Ne.symm h2)) (by omega) (fun σ5 hw e5 => ?_)
      obtain ⟨f5, e5, h5⟩ := e5
      refine ⟨rfl, by rw [e5]; exact C.trans (Chg.rowJ _ _ (Or.inr (Or.inr rfl))), fun m hm => ?_⟩
      rw [e5, gj_row, h5 m hm, r, Bool.and_eq_true, Bool.not_eq_true']
      have S := s m hm
      rw [dn_step hm] at S
      refine and_congr_right (fun hF => ?_)
      constructor
      · intro z x hx hxf hs
        by_cases q : x = m
        · exact q
        · rw [S.mpr ⟨x, hx, hxf, hs, q⟩] at z; exact absurd z (by decide)
      · intro z
        refine ts_nt (fun q => ?_)
        obtain ⟨x, hx, hxf, hs, hne⟩ := S.mp q
        exact hne (z x hx hxf hs)
    · intro τ C g r s
      refine gX0_keepMinimal_25 ⟨fun c => absurd ((c12le (by omega)).mp c) (by omega), fun _ => ⟨C.gh A0, sp, C.gg A3, st, C.gg A4, ?_⟩⟩
      refine CV.of (d2 := 2) (putIn_R (C.gh A7) (C.gh A8) (by omega) (by omega) he) (by omega) (fun σ12 hw e12 => ?_)
      rw [nI_1]
      refine ih σ12 (by rw [e12]; exact C.trans (Chg.rowJ _ _ (Or.inr (Or.inl rfl)))) (by rw [e12, gj_rown _ _ A10, g]) (by rw [e12, gj_rown _ _ h2, r]) (fun m hm => ?_)
      rw [e12, gj_row, bs_fl hm, bs_piF he _ _ hm, Bool.or_eq_true, Bool.and_eq_true, s m hm, g]
      have lt : m - 2 ^ e < 4096 := Nat.lt_of_le_of_lt (Nat.sub_le _ _) hm
      constructor
      · rintro (⟨k, hk, z⟩ | ⟨hb, z⟩)
        · exact ⟨k, by omega, z⟩
        · exact ⟨e, by omega, hb, (hf' _ lt).mp z⟩
      · rintro ⟨k, hk, hb, z⟩
        by_cases q : k = e
        · rw [q] at hb z; exact Or.inr ⟨hb, (hf' _ lt).mpr z⟩
        · exact Or.inl ⟨k, by omega, hb, z⟩
  exact L 0 (by omega) σ3 C3 g3 r3 (fun m hm => by rw [s3 m hm]; exact ⟨fun z => absurd z (by decide), fun ⟨k, hk, _⟩ => absurd hk (by omega)⟩)

