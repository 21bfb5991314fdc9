/-! ROWS of the model: divideRows, hit. -/
def keep2 (r f : Nat → Int64) : Prop := ∀ j, j < 6912 → f j = r j
theorem keep2_refl (r : Nat → Int64) : keep2 r r := fun _ _ => rfl
theorem keep2_trans {r f g : Nat → Int64} (h : keep2 r f) (k : keep2 f g) : keep2 r g := fun j hj => (k j hj).trans (h j hj)
theorem blk_keep2 {t : Nat} {r f : Nat → Int64} (ht : 108 ≤ t) (h : blk t r f) : keep2 r f := fun j hj => h j (by omega)
theorem mdivide_R {Γ : Gm} {d : Nat} {σ : AH} {mo wk f1 f2 a b : Nat} (A : MA σ mo wk f1 f2) (ha : 64 * a + 64 ≤ 7040) (hb : 64 * b + 64 ≤ 7040) (na : a ≠ 108) (nb : b ≠ 108) (hz : ∀ x, x < 4096 → bs (sr (gj σ wk) 108) x = false) (hd : 2 ≤ d) : RV Γ d MX9_divideRows [.ref mo, .int (nI a), .int (nI b)] σ (fun σ' => Chg (fun _ => False) (mJ wk f1 f2) σ σ' ∧ blk 108 (gj σ wk) (gj σ' wk) ∧ ∀ x, x < 4096 → (bs (sr (gj σ' wk) 108) x = true ↔ isQuo (bs (sr (gj σ wk) a)) (bs (sr (gj σ wk) b)) x)) := by
  obtain ⟨A0, A1, A2, A3, A4, A5, A6, n1, n2, n3⟩ := A
  generalize hF : bs (sr (gj σ wk) a) = F
  generalize hG : bs (sr (gj σ wk) b) = G
  refine eX9_divideRows ?_
  have outer : ∀ m, m ≤ 4096 → ∀ τ, Chg (fun _ => False) (mJ wk f1 f2) σ τ → blk 108 (gj σ wk) (gj τ wk) → (∀ x, x < 4096 → (bs (sr (gj τ wk) 108) x = true ↔ (x < m ∧ isQuo F G x))) → EV Γ MX9_divideRows d 2 [some (.ref mo), some (.int (nI a)), some (.int (nI b)), some (.int (nI m)), none, none] [] τ (fun o σ' => o = .inl none ∧ Chg (fun _ => False) (mJ wk f1 f2) σ σ' ∧ blk 108 (gj σ wk) (gj σ' wk) ∧ ∀ x, x < 4096 → (bs (sr (gj σ' wk) 108) x = true ↔ isQuo F G x)) := by
    refine upto 4096 ?_ (fun m hm ih => ?_)
    · intro τ C h2 h3
      exact gX9_divideRows_2 ⟨fun _ => ⟨rfl, C, h2, fun x hx => by rw [h3 x hx]; exact ⟨fun z => z.2, fun z => ⟨hx, z⟩⟩⟩, fun z => absurd ((c4096le (by omega)).mpr (Nat.le_refl _)) z⟩
    · intro τ C h2 h3
      have FA : ∀ x, x < 4096 → bs (sr (gj τ wk) a) x = F x := fun x hx => by rw [blk_bs h2 na hx, hF]
      have GA : ∀ x, x < 4096 → bs (sr (gj τ wk) b) x = G x := fun x hx => by rw [blk_bs h2 nb hx, hG]
      refine gX9_divideRows_2 ⟨fun z => absurd ((c4096le (by omega)).mp z) (by omega), fun _ => ?_⟩
      have out : ∀ is : Bool, (is = true ↔ isQuo F G m) → EV Γ MX9_divideRows d 76 [some (.ref mo), some (.int (nI a)), some (.int (nI b)), some (.int (nI m)), some (.int (b2i is)), none] [] τ (fun o σ' => o = .inl none ∧ Chg (fun _ => False) (mJ wk f1 f2) σ σ' ∧ blk 108 (gj σ wk) (gj σ' wk) ∧ ∀ x, x < 4096 → (bs (sr (gj σ' wk) 108) x = true ↔ isQuo F G x)) := by
        intro is his
        refine gX9_divideRows_76 ⟨fun z => ?_, fun z => ⟨C.gh A0, wk, C.gg A3, ?_⟩⟩
        · have hn : ¬ isQuo F G m := fun q => by rw [his.mpr q] at z; exact absurd z (by decide)
          rw [nI_1]
          refine ih τ C h2 (fun x hx => ?_)
          rw [h3 x hx]
          refine ⟨fun q => ⟨by omega, q.2⟩, fun q => ⟨?_, q.2⟩⟩
          by_cases c : x = m
          · rw [c] at q; exact absurd q.2 hn
          · omega
        · have hq : isQuo F G m := his.mp (ts_nf (fun q => z ((b2i_0 is).mpr q)))
          refine CV.of (d2 := 1) (mput_R (t := 108) (C.gh A6) (by omega) (by omega) hm) (by omega) (fun τ1 hw1 e1 => ?_)
          obtain ⟨f, e1, b1, b2⟩ := e1
          rw [nI_1]
          refine ih τ1 (by rw [e1]; exact C.trans (Chg.rowJ _ _ (Or.inl rfl))) (by rw [e1, gj_row]; exact blk_trans h2 b1) (fun x hx => ?_)
          rw [e1, gj_row, b2 x hx, Bool.or_eq_true, h3 x hx, decide_eq_true_iff]
          constructor
          · rintro (q | q)
            · exact ⟨by omega, q.2⟩
            · rw [q]; exact ⟨by omega, hq⟩
          · rintro ⟨q, q2⟩
            by_cases c : x = m
            · exact Or.inr c
            · exact Or.inl ⟨by omega, q2⟩
      have J : ∀ y, y ≤ 4096 → ∀ is : Bool, (is = true ↔ ∀ z, z < y → G z = true → m &&& z = 0 ∧ F (m ||| z) = true) → EV Γ MX9_divideRows d 15 [some (.ref mo), some (.int (nI a)), some (.int (nI b)), some (.int (nI m)), some (.int (b2i is)), some (.int (nI y))] [] τ (fun o σ' => o = .inl none ∧ Chg (fun _ => False) (mJ wk f1 f2) σ σ' ∧ blk 108 (gj σ wk) (gj σ' wk) ∧ ∀ x, x < 4096 → (bs (sr (gj σ' wk) 108) x = true ↔ isQuo F G x)) := by
        refine upto 4096 ?_ (fun y hy ih2 => ?_)
        · intro is his
          exact gX9_divideRows_15 ⟨fun _ => out is his, fun z => absurd ((c4096le (by omega)).mpr (Nat.le_refl _)) z⟩
        · intro is his
          refine gX9_divideRows_15 ⟨fun z => absurd ((c4096le (by omega)).mp z) (by omega), fun _ => ⟨fun z => ?_, fun z => ⟨C.gh A0, wk, C.gg A3, ?_⟩⟩⟩
          · refine out is ⟨fun q => ?_, fun q => his.mpr (fun z hz => q z (by omega))⟩
            rw [(b2i_0 is).mp z] at q; exact absurd q (by decide)
          · have all := his.mp (ts_nf (fun q => z ((b2i_0 is).mpr q)))
            refine CI.of (d2 := 1) (mhas_R (C.gh A6) hb (by omega) hy) (by omega) (fun r τ6 hw6 e6 => ?_)
            obtain ⟨rfl, rfl⟩ := e6
            rw [GA y hy, b2i_0, nI_1]
            refine ⟨fun g => ?_, fun g => ⟨fun w => ?_, fun w => ⟨C.gh A0, wk, C.gg A3, ?_⟩⟩⟩
            · refine ih2 true ⟨fun _ z' hz' hg => ?_, fun _ => rfl⟩
              by_cases c : z' = y
              · rw [c, g] at hg; exact absurd hg (by decide)
              · exact all z' (by omega) hg
            · refine ih2 false ⟨fun q => absurd q (by decide), fun q => ?_⟩
              have := (q y (by omega) (ts_nf g)).1
              rw [fa_and, this] at w
              exact absurd rfl w
            · have and0 : m &&& y = 0 := by
                rw [fa_and, show (0 : Int32) = nI 0 from rfl] at w
                have := and_lt (x := m) (y := y) hm
                exact (nI_eq (by omega) (by decide)).mp w
              rw [fa_or]
              refine CI.of (d2 := 1) (mhas_R (C.gh A6) ha (by omega) (or_lt hm hy)) (by omega) (fun r τ13 hw13 e13 => ?_)
              obtain ⟨rfl, rfl⟩ := e13
              rw [FA _ (or_lt hm hy), b2i_0]
              refine ⟨fun q => ih2 false ⟨fun q2 => absurd q2 (by decide), fun q2 => ?_⟩, fun q => ih2 true ⟨fun _ z' hz' hg => ?_, fun _ => rfl⟩⟩
              · have := (q2 y (by omega) (ts_nf g)).2
                rw [q] at this; exact absurd this (by decide)
              · by_cases c : z' = y
                · rw [c]; exact ⟨and0, ts_nf q⟩
                · exact all z' (by omega) hg
      exact J 0 (by omega) true ⟨fun _ z hz => absurd hz (by omega), fun _ => rfl⟩
  exact outer 0 (by omega) σ (Chg.refl _ _ _) (blk_refl _ _) (fun x hx => by rw [hz x hx]; exact ⟨fun z => absurd z (by decide), fun z => absurd z.1 (by omega)⟩)
theorem mhit_R {Γ : Gm} {d : Nat} {σ : AH} {mo wk f1 f2 a : Nat} (A : MA σ mo wk f1 f2) (ha : a < 108) (hz : ∀ x, x < 4096 → bs (sr (gj σ wk) 108) x = false) (hd : 3 ≤ d) : RV Γ d MX9_hit [.ref mo, .int (nI a)] σ (fun σ' => Chg (fun _ => False) (mJ wk f1 f2) σ σ' ∧ keep2 (gj σ wk) (gj σ' wk) ∧ ∀ x, x < 4096 → (bs (sr (gj σ' wk) 108) x = true ↔ isHit (bs (sr (gj σ wk) a)) x)) := by
  obtain ⟨A0, A1, A2, A3, A4, A5, A6, n1, n2, n3⟩ := A
  generalize hF : bs (sr (gj σ wk) a) = F
  refine eX9_hit ⟨A0, wk, A3, f1, A1, ?_⟩
  refine CV.of (d2 := 2) (mcount_R A6 A4 n2 (by omega) (by omega) (by omega)) (by omega) (fun σ6 hw6 e6 => ?_)
  obtain ⟨u, e6, hu⟩ := e6
  rw [hF] at hu
  have C6 : Chg (fun _ => False) (mJ wk f1 f2) σ σ6 := by rw [e6]; exact Chg.rowJ _ _ (Or.inr (Or.inl rfl))
  have wk6 : gj σ6 wk = gj σ wk := by rw [e6]; exact gj_rown _ _ (Ne.symm n2)
  refine ⟨C6.gh A0, wk, C6.gg A3, ?_⟩
  refine CV.of (d2 := 2) (clear_R (t := 109) (C6.gh A6) (by omega) (by omega)) (by omega) (fun σ11 hw11 e11 => ?_)
  obtain ⟨w, e11, w1, w2⟩ := e11
  have C11 : Chg (fun _ => False) (mJ wk f1 f2) σ σ11 := by rw [e11]; exact C6.trans (Chg.rowJ _ _ (Or.inl rfl))
  rw [wk6] at w1
  have z108 : ∀ f, blk 109 (gj σ wk) f → ∀ x, x < 4096 → bs (sr f 108) x = false := fun f h x hx => by rw [blk_bs h (by decide) hx]; exact hz x hx
  have last : ∀ m, m ≤ 4096 → ∀ τ, Chg (fun _ => False) (mJ wk f1 f2) σ τ → keep2 (gj σ wk) (gj τ wk) → (∀ x, x < 4096 → bs (sr (gj τ wk) 109) x = apart F x) → (∀ x, x < 4096 → gj τ f1 x = lN (dn (apart F) 12 x)) → (∀ x, x < 4096 → (bs (sr (gj τ wk) 108) x = true ↔ (x < m ∧ isHit F x))) → EV Γ MX9_hit d 76 [some (.ref mo), none, some (.int (nI m))] [] τ (fun o σ' => o = .inl none ∧ Chg (fun _ => False) (mJ wk f1 f2) σ σ' ∧ keep2 (gj σ wk) (gj σ' wk) ∧ ∀ x, x < 4096 → (bs (sr (gj σ' wk) 108) x = true ↔ isHit F x)) := by
    refine upto 4096 ?_ (fun m hm ih => ?_)
    · intro τ C k2 h9 h1 h3
      exact gX9_hit_76 ⟨fun _ => ⟨rfl, C, k2, fun x hx => by rw [h3 x hx]; exact ⟨fun z => z.2, fun z => ⟨hx, z⟩⟩⟩, fun z => absurd ((c4096le (by omega)).mpr (Nat.le_refl _)) z⟩
    · intro τ C k2 h9 h1 h3
      have no : ¬ isHit F m → EV Γ MX9_hit d 76 [some (.ref mo), none, some (.int (nI m + 1))] [] τ (fun o σ' => o = .inl none ∧ Chg (fun _ => False) (mJ wk f1 f2) σ σ' ∧ keep2 (gj σ wk) (gj σ' wk) ∧ ∀ x, x < 4096 → (bs (sr (gj σ' wk) 108) x = true ↔ isHit F x)) := by
        intro hn
        rw [nI_1]
        refine ih τ C k2 h9 h1 (fun x hx => ?_)
        rw [h3 x hx]
        refine ⟨fun q => ⟨by omega, q.2⟩, fun q => ⟨?_, q.2⟩⟩
        by_cases c : x = m
        · rw [c] at q; exact absurd q.2 hn
        · omega
      have D1 := dn_one (F := apart F) hm
      have dl := dn_le (apart F) 12 m
      refine gX9_hit_76 ⟨fun z => absurd ((c4096le (by omega)).mp z) (by omega), fun _ => ⟨C.gh A0, wk, C.gg A3, ?_⟩⟩
      refine CI.of (d2 := 2) (mhas_R (t := 109) (C.gh A6) (by omega) (by omega) hm) (by omega) (fun r τ5 hw5 e5 => ?_)
      obtain ⟨rfl, rfl⟩ := e5
      rw [h9 m hm, b2i_0]
      refine ⟨fun q => no (fun z => by have := z.1; rw [q] at this; exact absurd this (by decide)), fun q => ⟨C.gh A0, f1, C.gg A1, 4096, C.gh A4, m, IXn (by omega) (by omega), ?_⟩⟩
      have c1 : lg_cmp (gj τ5 f1 m) 1 = 0 ↔ dn (apart F) 12 m = 1 := by
        rw [cmp0, h1 m hm, show (1 : Int64) = lN 1 from rfl]
        exact fb_lN_inj (by omega) (by decide)
      refine ⟨fun y => no (fun z => y (c1.mpr (D1.mpr z).2)), fun y => ⟨wk, C.gg A3, ?_⟩⟩
      have hh : isHit F m := D1.mp ⟨ts_nf q, c1.mp y⟩
      refine CV.of (d2 := 2) (mput_R (t := 108) (C.gh A6) (by omega) (by omega) hm) (by omega) (fun τ1 hw1 e1 => ?_)
      obtain ⟨f, e1, b1, b2⟩ := e1
      rw [nI_1]
      refine ih τ1 (by rw [e1]; exact C.trans (Chg.rowJ _ _ (Or.inl rfl))) (by rw [e1, gj_row]; exact keep2_trans k2 (blk_keep2 (by decide) b1)) (fun x hx => by rw [e1, gj_row, blk_bs b1 (by decide) hx]; exact h9 x hx) (by rw [e1, gj_rown _ _ n2]; exact h1) (fun x hx => ?_)
      rw [e1, gj_row, b2 x hx, Bool.or_eq_true, h3 x hx, decide_eq_true_iff]
      constructor
      · rintro (q | q)
        · exact ⟨by omega, q.2⟩
        · rw [q]; exact ⟨by omega, hh⟩
      · rintro ⟨q, q2⟩
        by_cases c : x = m
        · exact Or.inr c
        · exact Or.inl ⟨by omega, q2⟩
  have mid : ∀ m, m ≤ 4096 → ∀ τ, Chg (fun _ => False) (mJ wk f1 f2) σ τ → blk 109 (gj σ wk) (gj τ wk) → gj τ f1 = u → (∀ x, x < 4096 → bs (sr (gj τ wk) 109) x = (decide (x < m) && apart F x)) → EV Γ MX9_hit d 23 [some (.ref mo), none, some (.int (nI m))] [] τ (fun o σ' => o = .inl none ∧ Chg (fun _ => False) (mJ wk f1 f2) σ σ' ∧ keep2 (gj σ wk) (gj σ' wk) ∧ ∀ x, x < 4096 → (bs (sr (gj σ' wk) 108) x = true ↔ isHit F x)) := by
    refine upto 4096 ?_ (fun m hm ih => ?_)
    · intro τ C k9 h1 h9
      refine gX9_hit_23 ⟨fun _ => ⟨C.gh A0, wk, C.gg A3, f1, C.gg A1, ?_⟩, fun z => absurd ((c4096le (by omega)).mpr (Nat.le_refl _)) z⟩
      refine CV.of (d2 := 2) (mcount_R (t := 109) (C.gh A6) (C.gh A4) n2 (by omega) (by omega) (by omega)) (by omega) (fun τ7 hw7 e7 => ?_)
      obtain ⟨v, e7, hv⟩ := e7
      have wk7 : gj τ7 wk = gj τ wk := by rw [e7]; exact gj_rown _ _ (Ne.symm n2)
      have h9' : ∀ x, x < 4096 → bs (sr (gj τ wk) 109) x = apart F x := fun x hx => by rw [h9 x hx, decide_eq_true hx, Bool.true_and]
      refine last 0 (by omega) τ7 (by rw [e7]; exact C.trans (Chg.rowJ _ _ (Or.inr (Or.inl rfl)))) (by rw [wk7]; exact blk_keep2 (by decide) k9) (by rw [wk7]; exact h9') (fun x hx => ?_) (fun x hx => ?_)
      · rw [e7, gj_row, hv x hx]
        apply congrArg lN
        exact ctp_congr (fun y hy => by rw [h9' y hy])
      · rw [wk7, z108 _ k9 x hx]
        exact ⟨fun z => absurd z (by decide), fun z => absurd z.1 (by omega)⟩
    · intro τ C k9 h1 h9
      have D0 := dn_pos (F := F) (m := 4095 - m) (by omega)
      have dl := dn_le F 12 (4095 - m)
      refine gX9_hit_23 ⟨fun z => absurd ((c4096le (by omega)).mp z) (by omega), fun _ => ⟨C.gh A0, f1, C.gg A1, 4096, C.gh A4, 4095 - m, by rw [show (4095 : Int32) = nI 4095 from rfl, pk_sub (by omega)]; exact IXn (by omega) (by omega), ?_⟩⟩
      have c0 : lg_cmp (gj τ f1 (4095 - m)) 0 = 0 ↔ dn F 12 (4095 - m) = 0 := by
        rw [cmp0, h1, hu _ (by omega), show (0 : Int64) = lN 0 from rfl]
        exact fb_lN_inj (by omega) (by decide)
      rw [nI_1]
      refine ⟨fun z => ih τ C k9 h1 (fun x hx => ?_), fun z => ⟨wk, C.gg A3, ?_⟩⟩
      · have nz : 0 < dn F 12 (4095 - m) := by
          rcases Nat.eq_zero_or_pos (dn F 12 (4095 - m)) with q | q
          · exact absurd (c0.mpr q) z
          · exact q
        have am : apart F m = false := bd_false.mpr (fun y => y (D0.mp nz))
        rw [h9 x hx]
        by_cases c : x = m
        · rw [c, am, Bool.and_false, Bool.and_false]
        · congr 1
          exact decide_eq_decide.mpr (by omega)
      · have am : apart F m = true := bd_true.mpr (fun y => by have := D0.mpr y; have := c0.mp z; omega)
        refine CV.of (d2 := 2) (mput_R (t := 109) (C.gh A6) (by omega) (by omega) hm) (by omega) (fun τ1 hw1 e1 => ?_)
        obtain ⟨f, e1, b1, b2⟩ := e1
        refine ih τ1 (by rw [e1]; exact C.trans (Chg.rowJ _ _ (Or.inl rfl))) (by rw [e1, gj_row]; exact blk_trans k9 b1) (by rw [e1, gj_rown _ _ n2]; exact h1) (fun x hx => ?_)
        rw [e1, gj_row, b2 x hx, h9 x hx]
        by_cases c : x = m
        · rw [c, am, decide_eq_true (show m < m + 1 by omega)]; simp
        · rw [decide_eq_false c, Bool.or_false]
          congr 1
          exact decide_eq_decide.mpr (by omega)
  refine mid 0 (by omega) σ11 C11 (by rw [e11, gj_row]; exact w1) (by rw [e11, gj_rown _ _ n2, e6, gj_row]) (fun x hx => ?_)
  rw [e11, gj_row, decide_eq_false (by omega), Bool.false_and]
  show wb (sr w 109 (x / 64)) (x % 64) = false
  rw [w2 _ (by omega), w_zero]
