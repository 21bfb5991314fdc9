/-! ROWS of the model: filter. -/
noncomputable def p1F (o : Nat) (F : Nat → Bool) (x : Nat) : Nat := if o = 11 then dn F 12 x else upc F 12 x
noncomputable def p2F (o : Nat) (G : Nat → Bool) (x : Nat) : Nat := if o = 8 then dn G 12 x else upc G 12 x
noncomputable def keepF (o : Nat) (F G : Nat → Bool) (x : Nat) : Bool := keptF o (F x) (G x) (p1F o F x) (p2F o G x)
theorem p1F_le (o : Nat) (F : Nat → Bool) (x : Nat) : p1F o F x ≤ 4096 := by
  unfold p1F
  by_cases c : o = 11
  · rw [if_pos c]; exact dn_le _ _ _
  · rw [if_neg c]; exact upc_le _ _ _
theorem p2F_le (o : Nat) (F : Nat → Bool) (x : Nat) : p2F o F x ≤ 4096 := by
  unfold p2F
  by_cases c : o = 8
  · rw [if_pos c]; exact dn_le _ _ _
  · rw [if_neg c]; exact upc_le _ _ _
theorem mfilter_R {Γ : Gm} {d : Nat} {σ : AH} {mo wk f1 f2 a b o : Nat} (A : MA σ mo wk f1 f2) (ha : a < 108) (hb : b < 108) (ho : isFl o) (hz : ∀ x, x < 4096 → bs (sr (gj σ wk) 108) x = false) (hd : 3 ≤ d) : RV Γ d MX9_filter [.ref mo, .int (nI o), .int (nI a), .int (nI b)] σ (fun σ' => Chg (fun _ => False) (mJ wk f1 f2) σ σ' ∧ blk 108 (gj σ wk) (gj σ' wk) ∧ ∀ x, x < 4096 → bs (sr (gj σ' wk) 108) x = keepF o (bs (sr (gj σ wk) a)) (bs (sr (gj σ wk) b)) x) := by
  have A' := A
  obtain ⟨A0, A1, A2, A3, A4, A5, A6, n1, n2, n3⟩ := A'
  generalize hF : bs (sr (gj σ wk) a) = F
  generalize hG : bs (sr (gj σ wk) b) = G
  have ol : o < 2 ^ 31 := by rcases ho with h | h | h | h | h | h | h | h <;> omega
  have oe : ∀ k, k < 2 ^ 31 → (nI o = nI k ↔ o = k) := fun k hk => nI_eq ol hk
  have E81 : ∀ m, m ≤ 4096 → ∀ τ, Chg (fun _ => False) (mJ wk f1 f2) σ τ → blk 108 (gj σ wk) (gj τ wk) → ((o = 10 ∨ o = 11 ∨ o = 13) → ∀ x, x < 4096 → gj τ f1 x = lN (p1F o F x)) → ((o = 8 ∨ o = 9) → ∀ x, x < 4096 → gj τ f2 x = lN (p2F o G x)) → (∀ x, x < 4096 → bs (sr (gj τ wk) 108) x = (decide (x < m) && keepF o F G x)) → EV Γ MX9_filter d 81 [some (.ref mo), some (.int (nI o)), some (.int (nI a)), some (.int (nI b)), some (.int (nI m))] [] τ (fun oc σ' => oc = .inl none ∧ Chg (fun _ => False) (mJ wk f1 f2) σ σ' ∧ blk 108 (gj σ wk) (gj σ' wk) ∧ ∀ x, x < 4096 → bs (sr (gj σ' wk) 108) x = keepF o F G x) := by
    refine upto 4096 ?_ (fun m hm ih => ?_)
    · intro τ C k2 h1 h2 h3
      exact gX9_filter_81 ⟨fun _ => ⟨rfl, C, k2, fun x hx => by rw [h3 x hx, decide_eq_true hx, Bool.true_and]⟩, fun z => absurd ((c4096le (by omega)).mpr (Nat.le_refl _)) z⟩
    · intro τ C k2 h1 h2 h3
      have FA : bs (sr (gj τ wk) a) m = F m := by rw [blk_bs k2 (by omega) hm, hF]
      have GA : bs (sr (gj τ wk) b) m = G m := by rw [blk_bs k2 (by omega) hm, hG]
      refine gX9_filter_81 ⟨fun z => absurd ((c4096le (by omega)).mp z) (by omega), fun _ => ⟨C.gh A0, wk, C.gg A3, ?_⟩⟩
      refine CI.of (d2 := 2) (mhas_R (C.gh A6) (by omega) (by omega) hm) (by omega) (fun r τ5 hw5 e5 => ?_)
      obtain ⟨rfl, rfl⟩ := e5
      refine ⟨C.gh A0, wk, C.gg A3, ?_⟩
      refine CI.of (d2 := 2) (mhas_R (C.gh A6) (by omega) (by omega) hm) (by omega) (fun r τ6 hw6 e6 => ?_)
      obtain ⟨rfl, rfl⟩ := e6
      refine ⟨C.gh A0, ?_⟩
      rw [FA, GA]
      refine CI.of (d2 := 2) (isKept_R (p1 := p1F o F m) (p2 := p2F o G m) (A.chg C) hm ho (fun w => ⟨h1 w m hm, p1F_le _ _ _⟩) (fun w => ⟨h2 w m hm, p2F_le _ _ _⟩)) (by omega) (fun r τ7 hw7 e7 => ?_)
      obtain ⟨rfl, rfl⟩ := e7
      rw [b2i_0, nI_1]
      have kd : keptF o (F m) (G m) (p1F o F m) (p2F o G m) = keepF o F G m := rfl
      rw [kd]
      refine ⟨fun z => ih τ7 C k2 h1 h2 (fun x hx => ?_), fun z => ⟨C.gh A0, wk, C.gg A3, ?_⟩⟩
      · rw [h3 x hx]
        by_cases c : x = m
        · rw [c, z, Bool.and_false, Bool.and_false]
        · congr 1
          exact decide_eq_decide.mpr (by omega)
      · refine CV.of (d2 := 2) (mput_R (t := 108) (C.gh A6) (by omega) (by omega) hm) (by omega) (fun τ1 hw1 e1 => ?_)
        obtain ⟨f, e1, b1, b2⟩ := e1
        refine ih τ1 (by rw [e1]; exact C.trans (Chg.rowJ _ _ (Or.inl rfl))) (by rw [e1, gj_row]; exact blk_trans k2 b1) (by rw [e1, gj_rown _ _ n2]; exact h1) (by rw [e1, gj_rown _ _ n3]; exact h2) (fun x hx => ?_)
        rw [e1, gj_row, b2 x hx, h3 x hx]
        by_cases c : x = m
        · rw [c, ts_nf z, decide_eq_true (show m < m + 1 by omega)]; simp
        · rw [decide_eq_false c, Bool.or_false]
          congr 1
          exact decide_eq_decide.mpr (by omega)
  have start : ∀ τ, Chg (fun _ => False) (mJ wk f1 f2) σ τ → gj τ wk = gj σ wk → ((o = 10 ∨ o = 11 ∨ o = 13) → ∀ x, x < 4096 → gj τ f1 x = lN (p1F o F x)) → ((o = 8 ∨ o = 9) → ∀ x, x < 4096 → gj τ f2 x = lN (p2F o G x)) → EV Γ MX9_filter d 81 [some (.ref mo), some (.int (nI o)), some (.int (nI a)), some (.int (nI b)), some (.int 0)] [] τ (fun oc σ' => oc = .inl none ∧ Chg (fun _ => False) (mJ wk f1 f2) σ σ' ∧ blk 108 (gj σ wk) (gj σ' wk) ∧ ∀ x, x < 4096 → bs (sr (gj σ' wk) 108) x = keepF o F G x) := by
    intro τ C h0 h1 h2
    exact E81 0 (by omega) τ C (by rw [h0]; exact blk_refl _ _) h1 h2 (fun x hx => by rw [h0, hz x hx, decide_eq_false (by omega)]; rfl)
  have E54 : ∀ τ, Chg (fun _ => False) (mJ wk f1 f2) σ τ → gj τ wk = gj σ wk → (o = 11 → ∀ x, x < 4096 → gj τ f1 x = lN (p1F o F x)) → ((o = 8 ∨ o = 9) → ∀ x, x < 4096 → gj τ f2 x = lN (p2F o G x)) → EV Γ MX9_filter d 54 [some (.ref mo), some (.int (nI o)), some (.int (nI a)), some (.int (nI b)), none] [] τ (fun oc σ' => oc = .inl none ∧ Chg (fun _ => False) (mJ wk f1 f2) σ σ' ∧ blk 108 (gj σ wk) (gj σ' wk) ∧ ∀ x, x < 4096 → bs (sr (gj σ' wk) 108) x = keepF o F G x) := by
    intro τ C h0 h1 h2
    have up66 : (o = 10 ∨ o = 13) → EV Γ MX9_filter d 66 [some (.ref mo), some (.int (nI o)), some (.int (nI a)), some (.int (nI b)), none] [] τ (fun oc σ' => oc = .inl none ∧ Chg (fun _ => False) (mJ wk f1 f2) σ σ' ∧ blk 108 (gj σ wk) (gj σ' wk) ∧ ∀ x, x < 4096 → bs (sr (gj σ' wk) 108) x = keepF o F G x) := by
      intro w
      refine gX9_filter_66 ⟨C.gh A0, wk, C.gg A3, f1, C.gg A1, ?_⟩
      refine CV.of (d2 := 2) (mcountUp_R (C.gh A6) (C.gh A4) n2 (by omega) (by omega) (by omega)) (by omega) (fun τ1 hw1 e1 => ?_)
      obtain ⟨u, e1, hu⟩ := e1
      rw [h0, hF] at hu
      refine start τ1 (by rw [e1]; exact C.trans (Chg.rowJ _ _ (Or.inr (Or.inl rfl)))) (by rw [e1, gj_rown _ _ (Ne.symm n2)]; exact h0) (fun _ x hx => ?_) (fun q => absurd q (by omega))
      rw [e1, gj_row, hu x hx]
      unfold p1F
      rw [if_neg (by omega)]
    refine gX9_filter_54 ⟨fun z => up66 (Or.inl ((oe 10 (by decide)).mp z)), fun z => ⟨fun z2 => start τ C h0 (fun q => ?_) h2, fun z2 => up66 (Or.inr ((oe 13 (by decide)).mp z2))⟩⟩
    rcases q with q | q | q
    · exact absurd ((oe 10 (by decide)).mpr q) z
    · exact h1 q
    · exact absurd ((oe 13 (by decide)).mpr q) z2
  have E36 : ∀ τ, Chg (fun _ => False) (mJ wk f1 f2) σ τ → gj τ wk = gj σ wk → ((o = 8 ∨ o = 9) → ∀ x, x < 4096 → gj τ f2 x = lN (p2F o G x)) → EV Γ MX9_filter d 36 [some (.ref mo), some (.int (nI o)), some (.int (nI a)), some (.int (nI b)), none] [] τ (fun oc σ' => oc = .inl none ∧ Chg (fun _ => False) (mJ wk f1 f2) σ σ' ∧ blk 108 (gj σ wk) (gj σ' wk) ∧ ∀ x, x < 4096 → bs (sr (gj σ' wk) 108) x = keepF o F G x) := by
    intro τ C h0 h2
    refine gX9_filter_36 ⟨fun z => E54 τ C h0 (fun q => absurd ((oe 11 (by decide)).mpr q) z) h2, fun z => ⟨C.gh A0, wk, C.gg A3, f1, C.gg A1, ?_⟩⟩
    have e := (oe 11 (by decide)).mp z
    refine CV.of (d2 := 2) (mcount_R (C.gh A6) (C.gh A4) n2 (by omega) (by omega) (by omega)) (by omega) (fun τ1 hw1 e1 => ?_)
    obtain ⟨u, e1, hu⟩ := e1
    rw [h0, hF] at hu
    refine E54 τ1 (by rw [e1]; exact C.trans (Chg.rowJ _ _ (Or.inr (Or.inl rfl)))) (by rw [e1, gj_rown _ _ (Ne.symm n2)]; exact h0) (fun _ x hx => ?_) (fun q => absurd q (by omega))
    rw [e1, gj_row, hu x hx]
    unfold p1F
    rw [if_pos e]
  have E18 : ∀ τ, Chg (fun _ => False) (mJ wk f1 f2) σ τ → gj τ wk = gj σ wk → (o = 8 → ∀ x, x < 4096 → gj τ f2 x = lN (p2F o G x)) → EV Γ MX9_filter d 18 [some (.ref mo), some (.int (nI o)), some (.int (nI a)), some (.int (nI b)), none] [] τ (fun oc σ' => oc = .inl none ∧ Chg (fun _ => False) (mJ wk f1 f2) σ σ' ∧ blk 108 (gj σ wk) (gj σ' wk) ∧ ∀ x, x < 4096 → bs (sr (gj σ' wk) 108) x = keepF o F G x) := by
    intro τ C h0 h2
    refine gX9_filter_18 ⟨fun z => E36 τ C h0 (fun q => h2 (by rcases q with q | q; exact q; exact absurd ((oe 9 (by decide)).mpr q) z)), fun z => ⟨C.gh A0, wk, C.gg A3, f2, C.gg A2, ?_⟩⟩
    have e := (oe 9 (by decide)).mp z
    refine CV.of (d2 := 2) (mcountUp_R (C.gh A6) (C.gh A5) n3 (by omega) (by omega) (by omega)) (by omega) (fun τ1 hw1 e1 => ?_)
    obtain ⟨u, e1, hu⟩ := e1
    rw [h0, hG] at hu
    refine E36 τ1 (by rw [e1]; exact C.trans (Chg.rowJ _ _ (Or.inr (Or.inr rfl)))) (by rw [e1, gj_rown _ _ (Ne.symm n3)]; exact h0) (fun _ x hx => ?_)
    rw [e1, gj_row, hu x hx]
    unfold p2F
    rw [if_neg (by omega)]
  refine eX9_filter ⟨fun z => E18 σ (Chg.refl _ _ _) rfl (fun q => absurd ((oe 8 (by decide)).mpr q) z), fun z => ⟨A0, wk, A3, f2, A2, ?_⟩⟩
  have e := (oe 8 (by decide)).mp z
  refine CV.of (d2 := 2) (mcount_R A6 A5 n3 (by omega) (by omega) (by omega)) (by omega) (fun τ1 hw1 e1 => ?_)
  obtain ⟨u, e1, hu⟩ := e1
  rw [hG] at hu
  refine E18 τ1 (by rw [e1]; exact Chg.rowJ _ _ (Or.inr (Or.inr rfl))) (by rw [e1, gj_rown _ _ (Ne.symm n3)]) (fun _ x hx => ?_)
  rw [e1, gj_row, hu x hx]
  unfold p2F
  rw [if_pos e]
