/-! ROWS of the model: joinRows, meetRows. -/
def MA (σ : AH) (mo wk f1 f2 : Nat) : Prop := hs σ mo = some (7, 27) ∧ gr σ mo 13 = some f1 ∧ gr σ mo 14 = some f2 ∧ gr σ mo 15 = some wk ∧ hs σ f1 = some (23, 4096) ∧ hs σ f2 = some (23, 4096) ∧ hs σ wk = some (23, 7040) ∧ f1 ≠ f2 ∧ f1 ≠ wk ∧ f2 ≠ wk
def mJ (wk f1 f2 : Nat) : Nat → Prop := fun a => a = wk ∨ a = f1 ∨ a = f2
theorem MA.chg {I J : Nat → Prop} {σ σ' : AH} {mo wk f1 f2 : Nat} (h : MA σ mo wk f1 f2) (c : Chg I J σ σ') : MA σ' mo wk f1 f2 := by
  unfold MA at *
  rw [c.2.2.1, c.2.2.2.1]
  exact h
theorem mjoin_R {Γ : Gm} {d : Nat} {σ : AH} {mo wk f1 f2 a b : Nat} (A : MA σ mo wk f1 f2) (ha : 64 * a + 64 ≤ 7040) (hb : 64 * b + 64 ≤ 7040) (na : a ≠ 108) (nb : b ≠ 108) (hz : ∀ x, x < 4096 → bs (sr (gj σ wk) 108) x = false) (hd : 3 ≤ d) : RV Γ d MX9_joinRows [.ref mo, .int (nI a), .int (nI b)] σ (fun σ' => Chg (fun _ => False) (mJ wk f1 f2) σ σ' ∧ blk 108 (gj σ wk) (gj σ' wk) ∧ ∀ x, x < 4096 → (bs (sr (gj σ' wk) 108) x = true ↔ isJn (bs (sr (gj σ wk) a)) (bs (sr (gj σ wk) b)) x)) := by
  obtain ⟨A0, A1, A2, A3, A4, A5, A6, n1, n2, n3⟩ := A
  generalize hF : bs (sr (gj σ wk) a) = F
  generalize hG : bs (sr (gj σ wk) b) = G
  refine eX9_joinRows ⟨A0, wk, A3, f1, A1, ?_⟩
  refine CV.of (d2 := 2) (mcount_R A6 A4 n2 ha (by omega) (by omega)) (by omega) (fun σ6 hw6 e6 => ?_)
  obtain ⟨u, e6, hu⟩ := e6
  have C6 : Chg (fun _ => False) (mJ wk f1 f2) σ σ6 := by rw [e6]; exact Chg.rowJ _ _ (Or.inr (Or.inl rfl))
  refine ⟨C6.gh A0, wk, C6.gg A3, f2, C6.gg A2, ?_⟩
  refine CV.of (d2 := 2) (mcount_R (C6.gh A6) (C6.gh A5) n3 hb (by omega) (by omega)) (by omega) (fun σ13 hw13 e13 => ?_)
  obtain ⟨w, e13, hw⟩ := e13
  have C13 : Chg (fun _ => False) (mJ wk f1 f2) σ σ13 := by rw [e13]; exact C6.trans (Chg.rowJ _ _ (Or.inr (Or.inr rfl)))
  have wk6 : gj σ6 wk = gj σ wk := by rw [e6]; exact gj_rown _ _ (Ne.symm n2)
  have wk13 : gj σ13 wk = gj σ wk := by rw [e13, gj_rown _ _ (Ne.symm n3)]; exact wk6
  have g1 : gj σ13 f1 = u := by rw [e13, gj_rown _ _ n1, e6, gj_row]
  have g2 : gj σ13 f2 = w := by rw [e13, gj_row]
  rw [wk6, hG] at hw
  rw [hF] at hu
  have last : ∀ m, m ≤ 4096 → ∀ τ, Chg (fun _ => False) (mJ wk f1 f2) σ τ → (∀ x, x < 4096 → gj τ f1 x = lN (jn F G 12 x)) → blk 108 (gj σ wk) (gj τ wk) → (∀ x, x < 4096 → (bs (sr (gj τ wk) 108) x = true ↔ (x < m ∧ isJn F G x))) → EV Γ MX9_joinRows d 117 [some (.ref mo), none, none, some (.int (nI m)), none] [] τ (fun o σ' => o = .inl none ∧ Chg (fun _ => False) (mJ wk f1 f2) σ σ' ∧ blk 108 (gj σ wk) (gj σ' wk) ∧ ∀ x, x < 4096 → (bs (sr (gj σ' wk) 108) x = true ↔ isJn F G x)) := by
    refine upto 4096 ?_ (fun m hm ih => ?_)
    · intro τ C h1 h2 h3
      exact gX9_joinRows_117 ⟨fun _ => ⟨rfl, C, h2, fun x hx => by rw [h3 x hx]; exact ⟨fun z => z.2, fun z => ⟨hx, z⟩⟩⟩, fun z => absurd ((c4096le (by omega)).mpr (Nat.le_refl _)) z⟩
    · intro τ C h1 h2 h3
      refine gX9_joinRows_117 ⟨fun z => absurd ((c4096le (by omega)).mp z) (by omega), fun _ => ⟨C.gh A0, f1, C.gg A1, 4096, C.gh A4, m, IXn (by omega) (by omega), ?_⟩⟩
      have le := jn_le F G 12 m
      have P := jn_pos (F := F) (G := G) hm
      have cz : lg_cmp (gj τ f1 m) 0 ≤ 0 ↔ jn F G 12 m = 0 := by
        rw [lg_cmp_le, h1 m hm, show (0 : Int64) = lN 0 from rfl, pk_lLE (by omega) (by decide)]
        omega
      rw [cz, nI_1]
      refine ⟨fun z => ih τ C h1 h2 (fun x hx => ?_), fun z => ⟨wk, C.gg A3, ?_⟩⟩
      · rw [h3 x hx]
        refine ⟨fun q => ⟨by omega, q.2⟩, fun q => ⟨?_, q.2⟩⟩
        by_cases c : x = m
        · rw [c] at q
          have := P.mpr q.2
          omega
        · omega
      · refine CV.of (d2 := 2) (mput_R (t := 108) (C.gh A6) (by omega) (by omega) hm) (by omega) (fun τ1 hw1 e1 => ?_)
        obtain ⟨f, e1, b1, b2⟩ := e1
        refine ih τ1 (by rw [e1]; exact C.trans (Chg.rowJ _ _ (Or.inl rfl))) (by rw [e1, gj_rown _ _ n2]; exact h1) (by rw [e1, gj_row]; exact blk_trans h2 b1) (fun x hx => ?_)
        rw [e1, gj_row, b2 x hx, Bool.or_eq_true, h3 x hx, decide_eq_true_iff]
        constructor
        · rintro (q | q)
          · exact ⟨by omega, q.2⟩
          · rw [q]; exact ⟨by omega, P.mp (by omega)⟩
        · rintro ⟨q, q2⟩
          by_cases c : x = m
          · exact Or.inr c
          · exact Or.inl ⟨by omega, q2⟩
  have mid : ∀ e, e ≤ 12 → ∀ τ, Chg (fun _ => False) (mJ wk f1 f2) σ τ → gj τ wk = gj σ wk → (∀ x, x < 4096 → gj τ f1 x = lN (jn F G e x)) → EV Γ MX9_joinRows d 56 [some (.ref mo), none, none, some (.int (nI e)), none] [] τ (fun o σ' => o = .inl none ∧ Chg (fun _ => False) (mJ wk f1 f2) σ σ' ∧ blk 108 (gj σ wk) (gj σ' wk) ∧ ∀ x, x < 4096 → (bs (sr (gj σ' wk) 108) x = true ↔ isJn F G x)) := by
    refine upto 12 ?_ (fun e he ih => ?_)
    · intro τ C h0 h1
      refine gX9_joinRows_56 ⟨fun _ => last 0 (by omega) τ C h1 (by rw [h0]; exact blk_refl _ _) (fun x hx => ?_), fun z => absurd ((c12le (by omega)).mpr (Nat.le_refl _)) z⟩
      rw [h0, hz x hx]
      exact ⟨fun z => absurd z (by decide), fun z => absurd z.1 (by omega)⟩
    · intro τ C h0 h1
      refine gX9_joinRows_56 ⟨fun z => absurd ((c12le (by omega)).mp z) (by omega), fun _ => ?_⟩
      have q0 := Nat.two_pow_pos e
      have J : ∀ m, m ≤ 4096 → ∀ τ, Chg (fun _ => False) (mJ wk f1 f2) σ τ → gj τ wk = gj σ wk → (∀ x, x < 4096 → gj τ f1 x = if x < m then lN (jn F G e x) else lN (jn F G (e + 1) x)) → EV Γ MX9_joinRows d 67 [some (.ref mo), none, none, some (.int (nI e)), some (.int (nI m - 1))] [] τ (fun o σ' => o = .inl none ∧ Chg (fun _ => False) (mJ wk f1 f2) σ σ' ∧ blk 108 (gj σ wk) (gj σ' wk) ∧ ∀ x, x < 4096 → (bs (sr (gj σ' wk) 108) x = true ↔ isJn F G x)) := by
        intro m
        induction m with
        | zero =>
          intro _ τ C h0 h1
          refine gX9_joinRows_67 ⟨fun _ => ?_, fun z => absurd (by decide) z⟩
          rw [nI_1]
          exact ih τ C h0 (fun x hx => by rw [h1 x hx, if_neg (by omega)])
        | succ m ih2 =>
          intro hm1 τ C h0 h1
          have hm : m < 4096 := by omega
          have js := jn_s F G e m
          rw [nI_pred]
          refine gX9_joinRows_67 ⟨fun z => absurd z (nn0 (by omega)), fun _ => ?_⟩
          rw [el_bit e he, show nI m + (-1) = nI m - 1 from (Int32.sub_eq_add_neg _ _).symm]
          refine ⟨fun z => ih2 (by omega) τ C h0 (fun x hx => ?_), fun z => ⟨C.gh A0, f1, C.gg A1, 4096, C.gh A4, m, IXn (by omega) (by omega), ?_⟩⟩
          · have hb : m.testBit e = false := ts_nt (fun y => z ((bit1 he hm).mpr y))
            rw [hb, if_neg (by decide)] at js
            rw [h1 x hx]
            by_cases q : x = m
            · subst q
              rw [if_pos (by omega), if_neg (by omega)]
              exact congrArg lN (js.trans (Nat.add_zero _))
            · by_cases q2 : x < m
              · rw [if_pos q2, if_pos (by omega)]
              · rw [if_neg q2, if_neg (by omega)]
          · have hb := (bit1 he hm).mp z
            obtain ⟨h2, h3⟩ := tb_sub hb
            rw [hb, if_pos rfl] at js
            have q1 : m - 2 ^ e < 4096 := Nat.lt_of_le_of_lt (Nat.sub_le _ _) hm
            have q2 : m - 2 ^ e < m := Nat.sub_lt (Nat.lt_of_lt_of_le q0 h2) q0
            refine ⟨m - 2 ^ e, by rw [pk_sub h2]; exact IXn q1 (by omega), fun τ1 ht => ?_⟩
            rw [h1 m hm, h1 _ q1, if_pos (by omega), if_pos (by omega), js, lN_sub (Nat.le_add_left _ _), Nat.add_sub_cancel] at ht
            refine ih2 (by omega) τ1 (by rw [ht]; exact C.trans (Chg.rowJ _ _ (Or.inr (Or.inl rfl)))) (by rw [ht, gj_setJ_n _ _ _ (Ne.symm n2)]; exact h0) (fun x hx => ?_)
            rw [ht, gj_setJ_s]
            by_cases q : x = m
            · rw [q, up_same, if_neg (by omega)]
            · rw [up_ne _ _ q, h1 x hx]
              by_cases q3 : x < m
              · rw [if_pos q3, if_pos (by omega)]
              · rw [if_neg q3, if_neg (by omega)]
      have := J 4096 (Nat.le_refl _) τ C h0 (fun x hx => by rw [if_pos hx]; exact h1 x hx)
      exact this
  have first : ∀ m, m ≤ 4096 → ∀ τ, Chg (fun _ => False) (mJ wk f1 f2) σ τ → gj τ wk = gj σ wk → gj τ f2 = w → (∀ x, x < 4096 → gj τ f1 x = if x < m then lN (jn F G 0 x) else u x) → EV Γ MX9_joinRows d 26 [some (.ref mo), none, none, some (.int (nI m)), none] [] τ (fun o σ' => o = .inl none ∧ Chg (fun _ => False) (mJ wk f1 f2) σ σ' ∧ blk 108 (gj σ wk) (gj σ' wk) ∧ ∀ x, x < 4096 → (bs (sr (gj σ' wk) 108) x = true ↔ isJn F G x)) := by
    refine upto 4096 ?_ (fun m hm ih => ?_)
    · intro τ C h0 h2 h1
      exact gX9_joinRows_26 ⟨fun _ => mid 0 (by omega) τ C h0 (fun x hx => by rw [h1 x hx, if_pos hx]), fun z => absurd ((c4096le (by omega)).mpr (Nat.le_refl _)) z⟩
    · intro τ C h0 h2 h1
      refine gX9_joinRows_26 ⟨fun z => absurd ((c4096le (by omega)).mp z) (by omega), fun _ => ⟨C.gh A0, f1, C.gg A1, 4096, C.gh A4, m, IXn (by omega) (by omega), f2, C.gg A2, 4096, C.gh A5, m, IXn (by omega) (by omega), fun τ1 ht => ?_⟩⟩
      rw [h1 m hm, if_neg (Nat.lt_irrefl m), h2, hu m hm, hw m hm, lN_mul, ← jn_0 hm] at ht
      rw [nI_1]
      refine ih τ1 (by rw [ht]; exact C.trans (Chg.rowJ _ _ (Or.inr (Or.inl rfl)))) (by rw [ht, gj_setJ_n _ _ _ (Ne.symm n2)]; exact h0) (by rw [ht, gj_setJ_n _ _ _ (Ne.symm n1)]; exact h2) (fun x hx => ?_)
      rw [ht, gj_setJ_s]
      by_cases c : x = m
      · rw [c, up_same, if_pos (by omega)]
      · rw [up_ne _ _ c, h1 x hx]
        by_cases q2 : x < m
        · rw [if_pos q2, if_pos (by omega)]
        · rw [if_neg q2, if_neg (by omega)]
  exact first 0 (by omega) σ13 C13 wk13 g2 (fun x hx => by rw [g1, if_neg (by omega)])
theorem mmeet_R {Γ : Gm} {d : Nat} {σ : AH} {mo wk f1 f2 a b : Nat} (A : MA σ mo wk f1 f2) (ha : 64 * a + 64 ≤ 7040) (hb : 64 * b + 64 ≤ 7040) (na : a ≠ 108) (nb : b ≠ 108) (hz : ∀ x, x < 4096 → bs (sr (gj σ wk) 108) x = false) (hd : 3 ≤ d) : RV Γ d MX9_meetRows [.ref mo, .int (nI a), .int (nI b)] σ (fun σ' => Chg (fun _ => False) (mJ wk f1 f2) σ σ' ∧ blk 108 (gj σ wk) (gj σ' wk) ∧ ∀ x, x < 4096 → (bs (sr (gj σ' wk) 108) x = true ↔ isMt (bs (sr (gj σ wk) a)) (bs (sr (gj σ wk) b)) x)) := by
  obtain ⟨A0, A1, A2, A3, A4, A5, A6, n1, n2, n3⟩ := A
  generalize hF : bs (sr (gj σ wk) a) = F
  generalize hG : bs (sr (gj σ wk) b) = G
  refine eX9_meetRows ⟨A0, wk, A3, f1, A1, ?_⟩
  refine CV.of (d2 := 2) (mcountUp_R A6 A4 n2 ha (by omega) (by omega)) (by omega) (fun σ6 hw6 e6 => ?_)
  obtain ⟨u, e6, hu⟩ := e6
  have C6 : Chg (fun _ => False) (mJ wk f1 f2) σ σ6 := by rw [e6]; exact Chg.rowJ _ _ (Or.inr (Or.inl rfl))
  refine ⟨C6.gh A0, wk, C6.gg A3, f2, C6.gg A2, ?_⟩
  refine CV.of (d2 := 2) (mcountUp_R (C6.gh A6) (C6.gh A5) n3 hb (by omega) (by omega)) (by omega) (fun σ13 hw13 e13 => ?_)
  obtain ⟨w, e13, hw⟩ := e13
  have C13 : Chg (fun _ => False) (mJ wk f1 f2) σ σ13 := by rw [e13]; exact C6.trans (Chg.rowJ _ _ (Or.inr (Or.inr rfl)))
  have wk6 : gj σ6 wk = gj σ wk := by rw [e6]; exact gj_rown _ _ (Ne.symm n2)
  have wk13 : gj σ13 wk = gj σ wk := by rw [e13, gj_rown _ _ (Ne.symm n3)]; exact wk6
  have g1 : gj σ13 f1 = u := by rw [e13, gj_rown _ _ n1, e6, gj_row]
  have g2 : gj σ13 f2 = w := by rw [e13, gj_row]
  rw [wk6, hG] at hw
  rw [hF] at hu
  have last : ∀ m, m ≤ 4096 → ∀ τ, Chg (fun _ => False) (mJ wk f1 f2) σ τ → (∀ x, x < 4096 → gj τ f1 x = lN (mt F G 12 x)) → blk 108 (gj σ wk) (gj τ wk) → (∀ x, x < 4096 → (bs (sr (gj τ wk) 108) x = true ↔ (x < m ∧ isMt F G x))) → EV Γ MX9_meetRows d 117 [some (.ref mo), none, none, some (.int (nI m)), none] [] τ (fun o σ' => o = .inl none ∧ Chg (fun _ => False) (mJ wk f1 f2) σ σ' ∧ blk 108 (gj σ wk) (gj σ' wk) ∧ ∀ x, x < 4096 → (bs (sr (gj σ' wk) 108) x = true ↔ isMt F G x)) := by
    refine upto 4096 ?_ (fun m hm ih => ?_)
    · intro τ C h1 h2 h3
      exact gX9_meetRows_117 ⟨fun _ => ⟨rfl, C, h2, fun x hx => by rw [h3 x hx]; exact ⟨fun z => z.2, fun z => ⟨hx, z⟩⟩⟩, fun z => absurd ((c4096le (by omega)).mpr (Nat.le_refl _)) z⟩
    · intro τ C h1 h2 h3
      refine gX9_meetRows_117 ⟨fun z => absurd ((c4096le (by omega)).mp z) (by omega), fun _ => ⟨C.gh A0, f1, C.gg A1, 4096, C.gh A4, m, IXn (by omega) (by omega), ?_⟩⟩
      have le := mt_le F G 12 m
      have P := mt_pos (F := F) (G := G) hm
      have cz : lg_cmp (gj τ f1 m) 0 ≤ 0 ↔ mt F G 12 m = 0 := by
        rw [lg_cmp_le, h1 m hm, show (0 : Int64) = lN 0 from rfl, pk_lLE (by omega) (by decide)]
        omega
      rw [cz, nI_1]
      refine ⟨fun z => ih τ C h1 h2 (fun x hx => ?_), fun z => ⟨wk, C.gg A3, ?_⟩⟩
      · rw [h3 x hx]
        refine ⟨fun q => ⟨by omega, q.2⟩, fun q => ⟨?_, q.2⟩⟩
        by_cases c : x = m
        · rw [c] at q
          have := P.mpr q.2
          omega
        · omega
      · refine CV.of (d2 := 2) (mput_R (t := 108) (C.gh A6) (by omega) (by omega) hm) (by omega) (fun τ1 hw1 e1 => ?_)
        obtain ⟨f, e1, b1, b2⟩ := e1
        refine ih τ1 (by rw [e1]; exact C.trans (Chg.rowJ _ _ (Or.inl rfl))) (by rw [e1, gj_rown _ _ n2]; exact h1) (by rw [e1, gj_row]; exact blk_trans h2 b1) (fun x hx => ?_)
        rw [e1, gj_row, b2 x hx, Bool.or_eq_true, h3 x hx, decide_eq_true_iff]
        constructor
        · rintro (q | q)
          · exact ⟨by omega, q.2⟩
          · rw [q]; exact ⟨by omega, P.mp (by omega)⟩
        · rintro ⟨q, q2⟩
          by_cases c : x = m
          · exact Or.inr c
          · exact Or.inl ⟨by omega, q2⟩
  have mid : ∀ e, e ≤ 12 → ∀ τ, Chg (fun _ => False) (mJ wk f1 f2) σ τ → gj τ wk = gj σ wk → (∀ x, x < 4096 → gj τ f1 x = lN (mt F G e x)) → EV Γ MX9_meetRows d 56 [some (.ref mo), none, none, some (.int (nI e)), none] [] τ (fun o σ' => o = .inl none ∧ Chg (fun _ => False) (mJ wk f1 f2) σ σ' ∧ blk 108 (gj σ wk) (gj σ' wk) ∧ ∀ x, x < 4096 → (bs (sr (gj σ' wk) 108) x = true ↔ isMt F G x)) := by
    refine upto 12 ?_ (fun e he ih => ?_)
    · intro τ C h0 h1
      refine gX9_meetRows_56 ⟨fun _ => last 0 (by omega) τ C h1 (by rw [h0]; exact blk_refl _ _) (fun x hx => ?_), fun z => absurd ((c12le (by omega)).mpr (Nat.le_refl _)) z⟩
      rw [h0, hz x hx]
      exact ⟨fun z => absurd z (by decide), fun z => absurd z.1 (by omega)⟩
    · intro τ C h0 h1
      refine gX9_meetRows_56 ⟨fun z => absurd ((c12le (by omega)).mp z) (by omega), fun _ => ?_⟩
      have q0 := Nat.two_pow_pos e
      have J : ∀ m, m ≤ 4096 → ∀ τ, Chg (fun _ => False) (mJ wk f1 f2) σ τ → gj τ wk = gj σ wk → (∀ x, x < 4096 → gj τ f1 x = if x < m then lN (mt F G (e + 1) x) else lN (mt F G e x)) → EV Γ MX9_meetRows d 65 [some (.ref mo), none, none, some (.int (nI e)), some (.int (nI m))] [] τ (fun o σ' => o = .inl none ∧ Chg (fun _ => False) (mJ wk f1 f2) σ σ' ∧ blk 108 (gj σ wk) (gj σ' wk) ∧ ∀ x, x < 4096 → (bs (sr (gj σ' wk) 108) x = true ↔ isMt F G x)) := by
        refine upto 4096 ?_ (fun m hm ih2 => ?_)
        · intro τ C h0 h1
          refine gX9_meetRows_65 ⟨fun _ => ?_, fun z => absurd ((c4096le (by omega)).mpr (Nat.le_refl _)) z⟩
          rw [nI_1]
          exact ih τ C h0 (fun x hx => by rw [h1 x hx, if_pos hx])
        · intro τ C h0 h1
          have js := mt_s F G e m
          refine gX9_meetRows_65 ⟨fun z => absurd ((c4096le (by omega)).mp z) (by omega), fun _ => ?_⟩
          rw [el_bit e he, nI_1]
          refine ⟨fun z => ih2 τ C h0 (fun x hx => ?_), fun z => ⟨C.gh A0, f1, C.gg A1, 4096, C.gh A4, m, IXn (by omega) (by omega), ?_⟩⟩
          · have hb : m.testBit e = true := ts_nf (fun y => z ((bit0 he hm).mpr y))
            rw [hb, if_pos rfl] at js
            rw [h1 x hx]
            by_cases q : x = m
            · subst q
              rw [if_neg (by omega), if_pos (by omega)]
              exact congrArg lN (js.trans (Nat.add_zero _))
            · by_cases q2 : x < m
              · rw [if_pos q2, if_pos (by omega)]
              · rw [if_neg q2, if_neg (by omega)]
          · have hb := (bit0 he hm).mp z
            rw [hb, if_neg (by decide)] at js
            have q1 := add_lt hm he hb
            refine ⟨m + 2 ^ e, by rw [nI_add]; exact IXn q1 (by omega), fun τ1 ht => ?_⟩
            rw [h1 m hm, h1 _ q1, if_neg (Nat.lt_irrefl m), if_neg (by omega), js, lN_sub (Nat.le_add_left _ _), Nat.add_sub_cancel] at ht
            refine ih2 τ1 (by rw [ht]; exact C.trans (Chg.rowJ _ _ (Or.inr (Or.inl rfl)))) (by rw [ht, gj_setJ_n _ _ _ (Ne.symm n2)]; exact h0) (fun x hx => ?_)
            rw [ht, gj_setJ_s]
            by_cases q : x = m
            · rw [q, up_same, if_pos (by omega)]
            · rw [up_ne _ _ q, h1 x hx]
              by_cases q3 : x < m
              · rw [if_pos q3, if_pos (by omega)]
              · rw [if_neg q3, if_neg (by omega)]
      exact J 0 (by omega) τ C h0 (fun x hx => by rw [if_neg (by omega)]; exact h1 x hx)
  have first : ∀ m, m ≤ 4096 → ∀ τ, Chg (fun _ => False) (mJ wk f1 f2) σ τ → gj τ wk = gj σ wk → gj τ f2 = w → (∀ x, x < 4096 → gj τ f1 x = if x < m then lN (mt F G 0 x) else u x) → EV Γ MX9_meetRows d 26 [some (.ref mo), none, none, some (.int (nI m)), none] [] τ (fun o σ' => o = .inl none ∧ Chg (fun _ => False) (mJ wk f1 f2) σ σ' ∧ blk 108 (gj σ wk) (gj σ' wk) ∧ ∀ x, x < 4096 → (bs (sr (gj σ' wk) 108) x = true ↔ isMt F G x)) := by
    refine upto 4096 ?_ (fun m hm ih => ?_)
    · intro τ C h0 h2 h1
      exact gX9_meetRows_26 ⟨fun _ => mid 0 (by omega) τ C h0 (fun x hx => by rw [h1 x hx, if_pos hx]), fun z => absurd ((c4096le (by omega)).mpr (Nat.le_refl _)) z⟩
    · intro τ C h0 h2 h1
      refine gX9_meetRows_26 ⟨fun z => absurd ((c4096le (by omega)).mp z) (by omega), fun _ => ⟨C.gh A0, f1, C.gg A1, 4096, C.gh A4, m, IXn (by omega) (by omega), f2, C.gg A2, 4096, C.gh A5, m, IXn (by omega) (by omega), fun τ1 ht => ?_⟩⟩
      rw [h1 m hm, if_neg (Nat.lt_irrefl m), h2, hu m hm, hw m hm, lN_mul, ← mt_0 hm] at ht
      rw [nI_1]
      refine ih τ1 (by rw [ht]; exact C.trans (Chg.rowJ _ _ (Or.inr (Or.inl rfl)))) (by rw [ht, gj_setJ_n _ _ _ (Ne.symm n2)]; exact h0) (by rw [ht, gj_setJ_n _ _ _ (Ne.symm n1)]; exact h2) (fun x hx => ?_)
      rw [ht, gj_setJ_s]
      by_cases c : x = m
      · rw [c, up_same, if_pos (by omega)]
      · rw [up_ne _ _ c, h1 x hx]
        by_cases q2 : x < m
        · rw [if_pos q2, if_pos (by omega)]
        · rw [if_neg q2, if_neg (by omega)]
  exact first 0 (by omega) σ13 C13 wk13 g2 (fun x hx => by rw [g1, if_neg (by omega)])
