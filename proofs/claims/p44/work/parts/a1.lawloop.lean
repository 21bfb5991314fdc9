/-! THE LAW's loops and its start. -/
section FAMS
variable {S S0 : StT} {m y b c : Nat} {gn : Nat → Int32} {gf : Nat → Int64} {r : Int64}
/-- the families at hand are in the store, each under a number of its own -/
def FAM (S : StT) (m : Nat) (gn : Nat → Int32) (gf : Nat → Int64) : Prop := (∀ i, i < m → ∃ a, gn i = nI a ∧ okv S a = true ∧ sF S a = wb (gf i)) ∧ ∀ i j, i < m → j < m → gn i = gn j → i = j
theorem FAM.zero (S : StT) (gn : Nat → Int32) (gf : Nat → Int64) : FAM S 0 gn gf := ⟨fun i hi => absurd hi (by omega), fun i j hi => absurd hi (by omega)⟩
theorem FAM.ext (h : FAM S0 m gn gf) (e : Ext S0 S) : FAM S m gn gf := ⟨fun i hi => by
  obtain ⟨a, a1, a2, a3⟩ := h.1 i hi
  obtain ⟨b1, b2⟩ := e.ok a2
  exact ⟨a, a1, b1, b2.trans a3⟩, h.2⟩
/-- a number of before is no number of the result -/
theorem FAM.new (h : FAM S0 m gn gf) (e : Ext S0 S) (rs : RES S0 S r c) (hn : sN S ≤ 200) {i : Nat} (hi : i < m) : gn i ≠ nI c := by
  obtain ⟨a, a1, a2, a3⟩ := h.1 i hi
  have la := (okv_i.mp a2).1
  have lc := (okv_i.mp rs.2.1).1
  have := rs.1
  have := e.1
  intro q
  rw [a1] at q
  have := (nI_eq (by omega) (by omega)).mp q
  omega
theorem FAM.add (h : FAM S0 m gn gf) (e : Ext S0 S) (rs : RES S0 S r c) (hn : sN S ≤ 200) : FAM S (m + 1) (up gn m (nI c)) (up gf m r) := by
  refine ⟨fun i hi => ?_, fun i j hi hj q => ?_⟩
  · by_cases z : i = m
    · rw [z, up_same, up_same]; exact ⟨c, rfl, rs.2.1, rs.2.2⟩
    · rw [up_ne _ _ z, up_ne _ _ z]; exact (h.ext e).1 i (by omega)
  · by_cases z : i = m
    · by_cases z2 : j = m
      · omega
      · rw [z, up_same, up_ne _ _ z2] at q
        exact absurd q.symm (h.new e rs hn (by omega))
    · by_cases z2 : j = m
      · rw [z2, up_same, up_ne _ _ z] at q
        exact absurd q (h.new e rs hn (by omega))
      · rw [up_ne _ _ z, up_ne _ _ z2] at q
        exact h.2 i j (by omega) (by omega) q
theorem FAM.put (h : FAM S0 m gn gf) (e : Ext S0 S) (rs : RES S0 S r c) (hn : sN S ≤ 200) (hy : y < m) (hb : gn y = nI b) (ob : okv S0 b = true) : FAM (stR S b) m (up gn y (nI c)) (up gf y r) := by
  have lb := (okv_i.mp ob).1
  have kp : ∀ a, a ≠ b → okv S a = true → okv (stR S b) a = true := fun a na oa => by
    obtain ⟨x1, x2⟩ := okv_i.mp oa
    exact okv_i.mpr ⟨x1, by show up (sR S) b true a = false; rw [up_ne _ _ na]; exact x2⟩
  refine ⟨fun i hi => ?_, fun i j hi hj q => ?_⟩
  · by_cases z : i = y
    · rw [z, up_same, up_same]
      exact ⟨c, rfl, kp c (by have := rs.1; omega) rs.2.1, rs.2.2⟩
    · rw [up_ne _ _ z, up_ne _ _ z]
      obtain ⟨a, a1, a2, a3⟩ := (h.ext e).1 i hi
      exact ⟨a, a1, kp a (fun w => z (h.2 i y hi hy (by rw [a1, hb, w]))) a2, a3⟩
  · by_cases z : i = y
    · by_cases z2 : j = y
      · omega
      · rw [z, up_same, up_ne _ _ z2] at q
        exact absurd q.symm (h.new e rs hn hj)
    · by_cases z2 : j = y
      · rw [z2, up_same, up_ne _ _ z] at q
        exact absurd q (h.new e rs hn hi)
      · rw [up_ne _ _ z, up_ne _ _ z2] at q
        exact h.2 i j hi hj q
end FAMS
/-- the class's tables stay small -/
theorem RepC.c18 {Γ : Gm} {σ : AH} {own ad : Nat → Nat} {S : StT} {c w : Nat} (R : RepC Γ σ own ad S c w) : c ≤ 18 := by
  have hN := R.n.2
  obtain ⟨-, -, -, -, -, -, -, C7', -, -⟩ := R
  obtain ⟨ke, us, me, pl, nx, K, den, cnt, v, V, -, -, -, h1, h2, -⟩ := C7'
  obtain ⟨D, -, Vn, -⟩ := V
  obtain ⟨D0, D1, D2, D3, D4, D5, D6, D7, D8, D9, D10, n1, n2, n3, n4, n5, n6, D11, D12, D13, ⟨D14, D15⟩, D16, -⟩ := D
  have sz := Vn.size D12
  have hr := ctp_le (fun f => sR S f = true) 200
  rcases Nat.lt_or_ge 18 c with y | y
  · exfalso
    have p : 2 ^ 18 ≤ 2 ^ (c - 1) := Nat.pow_le_pow_right (by omega) (by omega)
    omega
  · exact y
section LOOPS
variable {Γ : Gm} {σ : AH} {ad : Nat → Nat} {sc n nu fa : Nat} {gn : Nat → Int32} {gf : Nat → Int64} {S0 S : StT} {T R m k y : Nat} {r : Int64}
theorem LT.fin (h : LT Γ ad sc n nu fa gn gf S T R σ) (hT : T ≤ 3000) : hc σ ≤ 600086 ∧ hv σ ≤ 7301442 := by
  obtain ⟨W, L, own, c, w, R0, hsc, hn, hf, B1, B2⟩ := h
  have c1 := R0.c18
  have p1 : 2 ^ (c + 1) ≤ 2 ^ 19 := Nat.pow_le_pow_right (by omega) (by omega)
  exact ⟨by omega, by omega⟩
theorem a522 {c : Nat} (hm : 3 ≤ m ∧ m ≤ 8) (hy : y < m) (h : STG Γ ad sc n nu fa gn gf S0 T R 8 S σ) (fm : FAM S0 m gn gf) (rs : RES S0 S r c) (hR : R < sN S) (K : ∀ m' gn' gf' S' R' σ', 3 ≤ m' → m' ≤ 8 → LT Γ ad sc n nu fa gn' gf' S' (T + 76) R' σ' → FAM S' m' gn' gf' → sN S' = sN S → R' ≤ R + 1 → EV Γ ML_law 13 588 [some (.ref sc), some (.ref (ad 0)), some (.ref nu), some (.ref fa), some (.int (nI m')), some (.int (nI k)), none, none, none, none, none, none, none, none, none, none, none, none, none, some (.int 0), none] [] σ' QF) : EV Γ ML_law 13 522 [some (.ref sc), some (.ref (ad 0)), some (.ref nu), some (.ref fa), some (.int (nI m)), some (.int (nI k)), none, none, some (.int (nI y)), none, none, none, none, none, none, none, some (.long r), none, some (.int (nI c)), none, none] [] σ QF := by
  obtain ⟨h, ex, -, -⟩ := h
  have n2 := h.n200
  refine gL_law_522 (CALL.mono (is_L (d := 12) (by omega) h rs.2.1 rs.2.2) (by omega) (fun v σ1 W1 q => ?_) (fun E σ1 W1 q => absurd q.1 (by simp)))
  obtain ⟨q1, h1⟩ := q
  refine ⟨1, Sum.inl.inj q1, fun _ => ⟨fun z8 => ?_, fun z8 => ?_⟩, fun z => absurd z (by decide)⟩
  · obtain ⟨b, b1, b2, b3⟩ := fm.1 y hy
    obtain ⟨ok, -⟩ := ex.ok b2
    refine ⟨16, h1.hsN, y, IXn (by omega) (by omega), h1.co, ?_⟩
    rw [h1.giN, b1]
    have sl := h1.sl
    have Lr : sL (stR S b) = nI (sN (stR S b) - (R + 1)) ∧ R + 1 ≤ sN (stR S b) := by
      refine ⟨?_, hR⟩
      show sL S - 1 = nI (sN S - (R + 1))
      rw [sl.1, show sN S - R = sN S - (R + 1) + 1 by omega, nI_pred]
    refine lt_call h1 (fun own c w R0 => release_R R0 (Nat.le_refl 11)) (rel_0 ok n2) Lr (fun σ9 h9 => ?_) (by omega)
    refine ⟨fun _ => ⟨16, h9.hsN, y, IXn (by omega) (by omega), fun σ17 e17 => ?_⟩, fun z => absurd ?_ z⟩
    · have h17 := h9.setN e17
      refine ⟨16, h17.hsF, y, IXn (by omega) (by omega), fun σ24 e24 => ?_⟩
      exact K m _ _ _ _ σ24 hm.1 hm.2 (h17.setF e24) (fm.put ex rs n2 hy b1 b2) rfl (Nat.le_refl _)
    · have e : sL S - 1 = nI (sN S - (R + 1)) := Lr.1
      show 0 ≤ sL S - 1
      rw [e]
      exact nI_pos' (by omega)
  · have m8 : m < 8 := by
      rcases Nat.lt_or_ge m 8 with w | w
      · exact w
      · exact absurd ((nI_leI (a := 8) (by omega) (by omega)).mpr w) z8
    refine ⟨16, h1.hsN, m, IXn (by omega) (by omega), fun σ32 e32 => ?_⟩
    have h32 := h1.setN e32
    refine ⟨16, h32.hsF, m, IXn (by omega) (by omega), fun σ39 e39 => ?_⟩
    rw [nI_1]
    exact K (m + 1) _ _ S R σ39 (by omega) (by omega) ((h32.setF e39).more (by omega)) (fm.add ex rs n2) rfl (by omega)
theorem e598 {i : Nat} (hm : m ≤ 8) (hi : i < m) (fm : FAM S m gn gf) (K : ∀ σ, LT Γ ad sc n nu fa gn gf S (T + 8 * (i + 1)) R σ → EV Γ ML_law 13 588 [some (.ref sc), some (.ref (ad 0)), some (.ref nu), some (.ref fa), some (.int (nI m)), some (.int (nI k)), none, none, none, none, none, none, none, none, none, none, none, none, none, some (.int (nI (i + 1))), none] [] σ QF) : ∀ j, j ≤ i → ∀ σ, LT Γ ad sc n nu fa gn gf S (T + 8 * i + j) R σ → EV Γ ML_law 13 598 [some (.ref sc), some (.ref (ad 0)), some (.ref nu), some (.ref fa), some (.int (nI m)), some (.int (nI k)), none, none, none, none, none, none, none, none, none, none, none, none, none, some (.int (nI i)), some (.int (nI j))] [] σ QF := by
  refine upto i (fun σ h => ?_) (fun j hj ih σ h => ?_)
  · refine gL_law_598 ⟨fun _ => ?_, fun z => absurd ((nI_leI (by omega) (by omega)).mpr (Nat.le_refl i)) z⟩
    rw [nI_1]
    exact K σ (h.more (by omega))
  · refine gL_law_598 ⟨fun z => absurd ((nI_leI (by omega) (by omega)).mp z) (by omega), fun _ => ?_⟩
    obtain ⟨a, a1, a2, a3⟩ := fm.1 i hi
    obtain ⟨b, b1, b2, b3⟩ := fm.1 j (by omega)
    refine ⟨16, h.hsN, i, IXn (by omega) (by omega), j, IXn (by omega) (by omega), h.co, ?_⟩
    rw [h.giN, a1, b1]
    refine lt_ask h (fun own c w R0 => areEqual_R R0 (by omega)) (q2_0 a2 b2 h.n200) (fun σ8 h8 => ?_) (by omega)
    refine ⟨16, h8.hsF, i, IXn (by omega) (by omega), j, IXn (by omega) (by omega), ?_⟩
    rw [h8.gjF, a3, b3]
    have go : LT Γ ad sc n nu fa gn gf S (T + 8 * i + (j + 1)) R σ8 := h8
    refine ⟨fun ne => ?_, fun eq => ?_⟩
    · have v0 : vEq (wb (gf i)) (wb (gf j)) = 0 := by
        unfold vEq
        rw [bd_false.mpr (fun w => ne ((cmp0 _ _).mpr (wb_ext (fun p _ => congrFun w p))))]
        rfl
      refine gL_law_634 ⟨fun _ => ?_, fun z => absurd v0 z⟩
      rw [nI_1]; exact ih σ8 go
    · have v1 : vEq (wb (gf i)) (wb (gf j)) = 1 := by
        unfold vEq
        rw [bd_true.mpr (by rw [(cmp0 _ _).mp eq])]
        rfl
      refine gL_law_634 ⟨fun _ => ?_, fun z => absurd v1 z⟩
      rw [nI_1]; exact ih σ8 go
theorem e588 (hm : m ≤ 8) (fm : FAM S m gn gf) (K : ∀ σ, LT Γ ad sc n nu fa gn gf S (T + 64) R σ → EV Γ ML_law 13 64 [some (.ref sc), some (.ref (ad 0)), some (.ref nu), some (.ref fa), some (.int (nI m)), some (.int (nI (k + 1))), none, none, none, none, none, none, none, none, none, none, none, none, none, none, none] [] σ QF) : ∀ i, i ≤ m → ∀ σ, LT Γ ad sc n nu fa gn gf S (T + 8 * i) R σ → EV Γ ML_law 13 588 [some (.ref sc), some (.ref (ad 0)), some (.ref nu), some (.ref fa), some (.int (nI m)), some (.int (nI k)), none, none, none, none, none, none, none, none, none, none, none, none, none, some (.int (nI i)), none] [] σ QF := by
  refine upto m (fun σ h => ?_) (fun i hi ih σ h => ?_)
  · refine gL_law_588 ⟨fun _ => ?_, fun z => absurd ((nI_leI (by omega) (by omega)).mpr (Nat.le_refl m)) z⟩
    rw [nI_1]
    exact K σ (h.more (by omega))
  · refine gL_law_588 ⟨fun z => absurd ((nI_leI (by omega) (by omega)).mp z) (by omega), fun _ => ?_⟩
    exact e598 hm hi fm ih 0 (by omega) σ h
theorem e660 (hm : m ≤ 8) (fm : FAM S m gn gf) (hT : T ≤ 2400) : ∀ i, i ≤ m → ∀ σ, LT Γ ad sc n nu fa gn gf S (T + 67 * i) R σ → EV Γ ML_law 13 660 [none, some (.ref (ad 0)), some (.ref nu), some (.ref fa), some (.int (nI m)), some (.int (nI i)), none, none, none, none, none, none, none, none, none, none, none, none, none, none, none] [] σ QF := by
  refine upto m (fun σ h => ?_) (fun i hi ih σ h => ?_)
  · exact gL_law_660 ⟨fun _ => ⟨rfl, h.fin (by omega)⟩, fun z => absurd ((nI_leI (by omega) (by omega)).mpr (Nat.le_refl m)) z⟩
  · refine gL_law_660 ⟨fun z => absurd ((nI_leI (by omega) (by omega)).mp z) (by omega), fun _ => ?_⟩
    obtain ⟨a, a1, a2, a3⟩ := fm.1 i hi
    refine ⟨16, h.hsN, i, IXn (by omega) (by omega), 16, h.hsF, i, IXn (by omega) (by omega), ?_⟩
    rw [h.giN, h.gjF, a1]
    refine CALL.mono (is_L (d := 12) (by omega) h a2 a3) (by omega) (fun v σ1 W1 q => ?_) (fun E σ1 W1 q => absurd q.1 (by simp))
    obtain ⟨q1, h1⟩ := q
    refine ⟨1, Sum.inl.inj q1, fun _ => ?_, fun z => absurd z (by decide)⟩
    rw [nI_1]
    exact ih σ1 (h1.more (by omega))
theorem e64 (hn : n ≤ 260) : ∀ k, k ≤ 10 → ∀ m gn gf S R σ, 3 ≤ m → m ≤ 8 → LT Γ ad sc n nu fa gn gf S (400 + 140 * k) R σ → FAM S m gn gf → R ≤ k → 3 + k ≤ sN S → sN S ≤ 39 + 8 * k → EV Γ ML_law 13 64 [some (.ref sc), some (.ref (ad 0)), some (.ref nu), some (.ref fa), some (.int (nI m)), some (.int (nI k)), none, none, none, none, none, none, none, none, none, none, none, none, none, none, none] [] σ QF := by
  refine upto 10 (fun m gn gf S R σ m3 m8 h fm hR s1 s2 => ?_) (fun k hk ih m gn gf S R σ m3 m8 h fm hR s1 s2 => ?_)
  · exact gL_law_64 ⟨fun _ => e660 m8 fm (T := 1800) (by omega) 0 (by omega) σ (h.more (by omega)), fun z => absurd ((nI_leI (a := 10) (b := 10) (by omega) (by omega)).mpr (Nat.le_refl 10)) z⟩
  · refine gL_law_64 ⟨fun z => absurd ((nI_leI (a := 10) (by omega) (by omega)).mp z) (by omega), fun _ => ?_⟩
    rw [show (3 : Int32) + nI k = nI (3 + k) from nI_add 3 k]
    refine CI.of (d2 := 0) (cell_L h.hsS (by omega) (by omega)) (by omega) (fun v σ2 _ e => ?_)
    subst e
    refine CI.of (d2 := 0) (below_L (n := m) (by omega) (by omega)) (by omega) (fun r5 σ4 _ e => ?_)
    obtain ⟨rfl, x, hx, rfl⟩ := e
    refine CI.of (d2 := 0) (below_L (n := m) (by omega) (by omega)) (by omega) (fun r7 σ6 _ e => ?_)
    obtain ⟨rfl, y, hy, rfl⟩ := e
    refine ⟨16, h.hsN, x, IXn (by omega) (by omega), y, IXn (by omega) (by omega), 16, h.hsF, x, IXn (by omega) (by omega), y, IXn (by omega) (by omega), ?_⟩
    refine CI.of (d2 := 0) (below_L (n := 10) (by omega) (by omega)) (by omega) (fun r21 σ20 _ e => ?_)
    obtain ⟨rfl, o, ho, rfl⟩ := e
    obtain ⟨a, a1, a2, a3⟩ := fm.1 x hx
    obtain ⟨b, b1, b2, b3⟩ := fm.1 y hy
    rw [h.giN, h.gjF, a1, b1]
    have go : ∀ o, o < 10 → (o = 4 → gf y ≠ 0) → EV Γ ML_law 13 153 [some (.ref sc), some (.ref (ad 0)), some (.ref nu), some (.ref fa), some (.int (nI m)), some (.int (nI k)), none, none, some (.int (nI y)), some (.int (nI a)), some (.int (nI b)), some (.long (gf x)), none, some (.long (gf y)), none, some (.int (nI o)), none, none, none, none, none] [] σ20 QF := by
      intro o ho h4
      refine c153 (S0 := S) (T := 400 + 140 * k) (R := R) ⟨h, Ext.refl S, by omega, by omega⟩ ho ⟨a2, a3⟩ ⟨b2, b3⟩ h4 (fun r σ' S' c hg rs => ?_)
      have lc := (okv_i.mp rs.2.1).1
      have lc2 := rs.1
      have lc3 := hg.2.2.1
      refine a522 ⟨m3, m8⟩ hy hg fm rs (by omega) (fun m' gn' gf' S2 R' σ3 m3' m8' h3 fm3 es hR' => ?_)
      refine e588 (T := 400 + 140 * k + 76) m8' fm3 (fun σ4 h4 => ?_) 0 (by omega) σ3 h3
      exact ih m' gn' gf' S2 R' σ4 m3' m8' (h4.more (by omega)) fm3 (by omega) (by omega) (by omega)
    refine ⟨fun n4 => go o ho (fun q => absurd (by rw [q]; rfl) n4), fun e4 => ⟨fun nz => ?_, fun _ => ?_⟩⟩
    · exact go o ho (fun _ w => nz ((cmp0 _ _).mpr w))
    · exact go 0 (by omega) (fun q => absurd q (by decide))
theorem e24 (hn : n ≤ 260) : ∀ k, k ≤ 3 → ∀ gn gf S σ, LT Γ ad sc n nu fa gn gf S (130 * k) 0 σ → FAM S k gn gf → k ≤ sN S → sN S ≤ 13 * k → EV Γ ML_law 13 24 [some (.ref sc), some (.ref (ad 0)), some (.ref nu), some (.ref fa), some (.int 3), some (.int (nI k)), none, none, none, none, none, none, none, none, none, none, none, none, none, none, none] [] σ QF := by
  refine upto 3 (fun gn gf S σ h fm s1 s2 => ?_) (fun k hk ih gn gf S σ h fm s1 s2 => ?_)
  · refine gL_law_24 ⟨fun _ => ?_, fun z => absurd ((nI_leI (a := 3) (b := 3) (by omega) (by omega)).mpr (Nat.le_refl 3)) z⟩
    exact e64 hn 0 (by omega) 3 gn gf S 0 σ (by omega) (by omega) (h.more (by omega)) fm (by omega) (by omega) (by omega)
  · refine gL_law_24 ⟨fun z => absurd ((nI_leI (a := 3) (by omega) (by omega)).mp z) (by omega), fun _ => ?_⟩
    refine CI.of (d2 := 0) (cell_L h.hsS (by omega) (by omega)) (by omega) (fun v σ2 _ e => ?_)
    subst e
    refine CJ.of (d2 := 1) (choose_L (by omega)) (by omega) (fun x σ4 _ e => ?_)
    obtain ⟨rfl, hx⟩ := e
    refine ⟨16, h.hsF, k, IXn (by omega) (by omega), fun σ10 e10 => ?_⟩
    have h10 := h.setF e10
    rw [h10.gjF, up_same]
    refine CALL.mono (make_L (d := 12) (by omega) h10 (x := x) (by omega)) (by omega) (fun v1 σ13 W13 q => ?_) (fun E σ13 W13 q => ?_)
    · obtain ⟨a, S', q1, h13, ex, la, ok, ff, le⟩ := q
      refine ⟨nI a, Sum.inl.inj q1, 16, h13.hsN, k, IXn (by omega) (by omega), fun σ19 e19 => ?_⟩
      rw [nI_1]
      have lt := (okv_i.mp ok).1
      exact ih _ _ S' σ19 ((h13.setN e19).more (by omega)) (fm.add ex ⟨la, ok, ff⟩ h13.n200) (by omega) (by omega)
    · obtain ⟨a, S', q1, -⟩ := q
      exact absurd q1 (by simp)
theorem law_start {σ0 : AH} (hn : n ≤ 260) (W : WF Γ σ0) (h1 : hs σ0 sc = some (28, n)) (hc0 : hc σ0 = 0) (hv0 : hv σ0 = 0) : EV Γ ML_law 13 0 [some (.ref sc), none, none, none, none, none, none, none, none, none, none, none, none, none, none, none, none, none, none, none, none] [] σ0 QF := by
  have scb : sc < lo Γ := by
    have := W.1 _ _ h1
    omega
  refine gL_law_0 (fun q1 σ2 eq1 e2 => ?_)
  have W2 : WF Γ σ2 := by rw [e2, eq1]; exact W.mk
  have F2 : FR (fun a => lo Γ ≤ a) σ0 σ2 := by rw [e2, eq1]; exact FR.mk _ _ W (by omega)
  have s2 : hs σ2 q1 = some (6, 17) := by rw [e2]; exact hs_mk_s _ _ _ _
  have c2 : hc σ2 = 1 := by rw [e2, hc_mk, hc0]
  have v2 : hv σ2 = 17 := by rw [e2, hv_mk, hv0]
  refine CV.of (d2 := 3) (ini8_R (own0 := fun _ => 0) s2 (by omega)) (by omega) (fun σ4 W4 z => ?_)
  obtain ⟨w, hw, R4, F4, c4, v4⟩ := z
  intro q6 σ7 eq6 e7 q9 σ10 eq9 e10
  have W7 : WF Γ σ7 := by rw [e7, eq6]; exact W4.mk
  have F7 : FR (fun a => lo Γ + hc σ4 ≤ a) σ4 σ7 := by rw [e7, eq6]; exact FR.mk _ _ W4 (Nat.le_refl _)
  have s7 : hs σ7 q6 = some (22, 16) := by rw [e7]; exact hs_mk_s _ _ _ _
  have c7 : hc σ7 = hc σ4 + 1 := by rw [e7]; rfl
  have v7 : hv σ7 = hv σ4 + 16 := by rw [e7]; rfl
  have W10 : WF Γ σ10 := by rw [e10, eq9]; exact W7.mk
  have F10 : FR (fun a => lo Γ + hc σ4 ≤ a) σ7 σ10 := by rw [e10, eq9]; exact FR.mk _ _ W7 (by omega)
  have s10 : hs σ10 q9 = some (23, 16) := by rw [e10]; exact hs_mk_s _ _ _ _
  have c10 : hc σ10 = hc σ7 + 1 := by rw [e10]; rfl
  have v10 : hv σ10 = hv σ7 + 16 := by rw [e10]; rfl
  have T4 : FR (fun a => lo Γ + hc σ4 ≤ a) σ4 σ10 := F7.trans F10
  have T0 : FR (fun a => lo Γ ≤ a) σ0 σ10 := (F2.trans (F4.mono (fun a h => by
    rcases h with z | z
    · omega
    · omega))).trans (T4.mono (fun a h => by omega))
  generalize hoc : ownC (fun _ => 0) q1 (lo Γ + hc σ2) = oc at *
  have ocs : oc sc = 0 := by
    rw [← hoc]
    exact (if_neg (by omega)).trans (if_neg (by omega))
  have ox : ∀ a, a < lo Γ + hc σ4 → up (up oc q6 90) q9 91 a = oc a := fun a ha => (up_ne _ _ (by omega)).trans (up_ne _ _ (by omega))
  have RC : RepC Γ σ10 (up (up oc q6 90) q9 91) (adC q1 (lo Γ + hc σ2)) stS 6 w := R4.keep (W := fun _ => False) W4 (T4.mono (fun a h => Or.inr h)) (fun r h => h.elim) (fun a ha _ => ox a (by omega))
  have LT0 : LT Γ (adC q1 (lo Γ + hc σ2)) sc n q6 q9 (gi σ10 q6) (gj σ10 q9) stS (130 * 0) 0 σ10 := by
    refine ⟨W10, ⟨rfl, Nat.zero_le _⟩, _, 6, w, RC, ⟨T0.gh h1, ?_, by omega⟩, ⟨F10.gh s7, ?_, by omega, rfl⟩, ⟨s10, up_same _ _ _, by omega, rfl⟩, by omega, by omega⟩
    · rw [ox sc (by omega)]; exact ocs
    · exact (up_ne _ _ (by omega)).trans (up_same _ _ _)
  exact e24 hn 0 (by omega) _ _ stS σ10 LT0 (FAM.zero _ _ _) (Nat.zero_le _) (Nat.zero_le _)
end LOOPS
