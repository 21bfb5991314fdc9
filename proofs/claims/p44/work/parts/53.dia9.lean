/-! ROWS of Diagrams: visit, whole. -/
theorem VI_cong {Γ : Gm} {sg : Bool} {F : Nat → Bool} {k v dg pa ke0 us0 me0 pl0 c0 nx0 : Nat} {K0 : Nat → Nat × Nat × Nat} {den0 : Nat → Nat → Bool} {cnt0 : Nat → Nat} {σ τ : AH} {e q e2 q2 : Nat} {ke us me pl c nx : Nat} {K : Nat → Nat × Nat × Nat} {den : Nat → Nat → Bool} {cnt : Nat → Nat}
    (V : VI Γ sg F k v dg pa ke0 us0 me0 pl0 c0 nx0 K0 den0 cnt0 σ e q τ ke us me pl c nx K den cnt)
    (h1 : ∀ g, PR F e2 q2 g ↔ PR F e q g) (h2 : ∀ p, p < 2 ^ k → p < 2 ^ (e2 + 1) → p < 2 ^ (e + 1) ∧ (if p < q then part F e p else part F (e + 1) p) = if p < q2 then part F e2 p else part F (e2 + 1) p) (h3 : made e q ≤ made e2 q2) :
    VI Γ sg F k v dg pa ke0 us0 me0 pl0 c0 nx0 K0 den0 cnt0 σ e2 q2 τ ke us me pl c nx K den cnt := by
  obtain ⟨V, hnx, Kd, Pt, Me, Ex, Cn, Lo, Fr⟩ := V
  refine ⟨V, hnx, Kd, fun p a b => ?_, fun i a b => by rw [h1]; exact Me i a b, fun g hg => Ex g ((h1 g).mp hg), fun i a b => by rw [bd_congr (h1 (den i))]; exact Cn i a b, Nat.le_trans Lo (Nat.add_le_add_left h3 _), Fr⟩
  obtain ⟨q1, q3⟩ := h2 p a b
  obtain ⟨x, y, z, w⟩ := Pt p a q1
  exact ⟨x, y, z, w.trans q3⟩
theorem el_bit : ∀ e, e < 12 → ((1 : Int32) <<< (nI e &&& 31)) = nI (2 ^ e) := by decide +kernel
theorem made_next (e : Nat) : made (e + 1) (2 ^ (e + 1)) ≤ made e 0 := by
  unfold made
  by_cases w : e + 1 < 9
  · have : 2 ^ (e + 1 + 1) ≤ 2 ^ 9 := Nat.pow_le_pow_right (by decide) (by omega)
    have h2 : 2 ^ (e + 1 + 1) = 2 ^ (e + 1) + 2 ^ (e + 1) := by rw [Nat.pow_succ]; omega
    rw [if_pos w, if_pos (by omega)]; omega
  · rw [if_neg w]; omega
theorem made_up (e : Nat) : made (e + 1) 0 ≤ made e 0 := by
  refine Nat.le_trans ?_ (made_next e)
  unfold made
  by_cases w : e + 1 < 9
  · rw [if_pos w, if_pos w]; exact Nat.add_le_add_left (Nat.zero_le _) _
  · rw [if_neg w, if_neg w]; exact Nat.le_refl _
/-- what a visit leaves -/
def VP (Γ : Gm) (sg : Bool) (F : Nat → Bool) (v dg pa : Nat) (ke0 us0 me0 pl0 c0 nx0 : Nat) (K0 : Nat → Nat × Nat × Nat) (den0 : Nat → Nat → Bool) (cnt0 : Nat → Nat) (σ : AH) (r : Int32) (τ : AH) : Prop :=
  ∃ ke us me pl c nx K den cnt, DV τ dg pa ke us me pl c nx K den cnt v ∧ nx0 ≤ nx ∧ (∀ i, i < nx0 → K i = K0 i ∧ den i = den0 i) ∧ r = nI (ctp (fun i => 2 ≤ i ∧ NP F (den i)) nx) ∧ (∀ g, NP F g → ∃ i, 2 ≤ i ∧ i < nx ∧ den i = g) ∧ (∀ i, 2 ≤ i → i < nx → cnt i = cntv sg (cnt0 i) (bd (NP F (den i)))) ∧ lowc K nx ≤ lowc K0 nx0 + 511 ∧ FR (fun a => a = pa ∨ dO dg ke0 us0 me0 pl0 (lo Γ + hc σ) a) σ τ ∧ hc τ + 4 * c0 = hc σ + 4 * c ∧ hv τ + 5 * 2 ^ (c0 + 1) = hv σ + 5 * 2 ^ (c + 1) ∧ (ke = ke0 ∨ lo Γ + hc σ ≤ ke) ∧ (us = us0 ∨ lo Γ + hc σ ≤ us) ∧ (me = me0 ∨ lo Γ + hc σ ≤ me) ∧ (pl = pl0 ∨ lo Γ + hc σ ≤ pl) ∧ c0 ≤ c
theorem visit_R {Γ : Gm} {d : Nat} {σ : AH} {sg : Bool} {dg pa ke0 us0 me0 pl0 c0 nx0 v0 row n : Nat} {K0 : Nat → Nat × Nat × Nat} {den0 : Nat → Nat → Bool} {cnt0 : Nat → Nat} (V : DV σ dg pa ke0 us0 me0 pl0 c0 nx0 K0 den0 cnt0 v0) (hr : hs σ row = some (23, n)) (hn : 64 ≤ n) (hv2 : v0 + 1 < 2 ^ 20) (hc0 : ∀ i, cnt0 i ≤ 1000) (hlow : lowc K0 nx0 ≤ 2 ^ 19) (hd : 8 ≤ d)
    (hsg : sg = false → ∀ g, NP (fam (gj σ row)) g → ∃ i, 2 ≤ i ∧ i < nx0 ∧ den0 i = g ∧ 1 ≤ cnt0 i) :
    RI Γ d MX3_visit [.ref dg, .ref row, .int (moreI sg)] σ (fun r τ => VP Γ sg (fam (gj σ row)) (v0 + 1) dg pa ke0 us0 me0 pl0 c0 nx0 K0 den0 cnt0 σ r τ) := by
  generalize hF : fam (gj σ row) = F at hsg
  have sF : sup F := by rw [← hF]; exact fam_sup _
  have V' := V
  obtain ⟨D, Vk, Vn, Vv, Vu, Vc, Vm, Vi⟩ := V'
  have D' := D
  obtain ⟨D0, D1, D2, D3, D4, D5, D6, D7, D8, D9, D10, n1, n2, n3, n4, n5, n6, D11, D12, D13, D14, D15, D16, D17, D18⟩ := D'
  refine eX3_visit ?_
  refine CI.of (d2 := 2) (span_R hr hn (by omega)) (by omega) (fun r1 σ1 hw e1 => ?_)
  obtain ⟨rfl, k, hk, rfl, hs1⟩ := e1
  have pk2 : 2 ^ k ≤ 2 ^ 12 := Nat.pow_le_pow_right (by decide) hk
  have hFk : ∀ m, F m = true → m < 2 ^ k := by
    intro m hm
    have h1 := sF m hm
    rw [← hF, fam_lt _ h1] at hm
    exact hs1 m h1 hm
  have dgp : dg ≠ pa := hs_ne D0 D6 (show (3 : Nat) ≠ 22 by decide)
  have dgu : dg ≠ us0 := hs_ne D0 D8 (show (3 : Nat) ≠ 22 by decide)
  have dgm : dg ≠ me0 := hs_ne D0 D9 (show (3 : Nat) ≠ 22 by decide)
  have dgl : dg ≠ pl0 := hs_ne D0 D10 (show (3 : Nat) ≠ 22 by decide)
  -- the tops, from 11 down
  have outer : ∀ E, E ≤ 12 → ∀ τ ke us me pl c nx K den cnt, VI Γ sg F k (v0 + 1) dg pa ke0 us0 me0 pl0 c0 nx0 K0 den0 cnt0 σ1 (E - 1) (if E = 0 then 1 else 0) τ ke us me pl c nx K den cnt → EV Γ MX3_visit d 68 [some (.ref dg), none, some (.int (moreI sg)), some (.int (nI (2 ^ k))), some (.int (nI (ctp (fun i => 2 ≤ i ∧ PR F (E - 1) (if E = 0 then 1 else 0) (den i)) nx))), some (.int (nI E - 1)), none, none, none] [] τ (fun o σ' => ∃ r : Int32, o = .inl (some (.int r)) ∧ VP Γ sg F (v0 + 1) dg pa ke0 us0 me0 pl0 c0 nx0 K0 den0 cnt0 σ1 r σ') := by
    intro E
    induction E with
    | zero =>
      intro _ τ ke us me pl c nx K den cnt W
      rw [if_pos rfl] at W ⊢
      refine gX3_visit_68 ⟨fun _ => ⟨_, rfl, ?_⟩, fun z => absurd (by decide) z⟩
      obtain ⟨W, hnx, Kd, Pt, Me, Ex, Cn, Lo, Fr, rest⟩ := W
      refine ⟨ke, us, me, pl, c, nx, K, den, cnt, W, hnx, Kd, ?_, fun g hg => Ex g ((PR_0 F g).mpr hg), fun i a b => ?_, Lo, Fr, rest⟩
      · apply congrArg nI
        exact ctp_congr (fun i _ => by rw [PR_0])
      · rw [Cn i a b, bd_congr (PR_0 F (den i))]
    | succ e ih =>
      intro hE τ ke us me pl c nx K den cnt W
      have he : e < 12 := by omega
      rw [if_neg (by omega), Nat.add_sub_cancel] at W ⊢
      rw [nI_pred]
      have pe := Nat.two_pow_pos e
      have p1 : 2 ^ (e + 1) = 2 ^ e + 2 ^ e := by rw [Nat.pow_succ]; omega
      refine gX3_visit_68 ⟨fun z => absurd z (nn0 (by omega)), fun _ => ?_⟩
      rw [el_bit e he]
      have e1 : nI e + (-1) = nI e - 1 := (Int32.sub_eq_add_neg _ _).symm
      rcases Nat.lt_or_ge e k with hek | hek
      · have pk : 2 ^ (e + 1) ≤ 2 ^ k := Nat.pow_le_pow_right (by decide) (by omega)
        have inner : ∀ q, q ≤ 2 ^ e → ∀ τ ke us me pl c nx K den cnt, VI Γ sg F k (v0 + 1) dg pa ke0 us0 me0 pl0 c0 nx0 K0 den0 cnt0 σ1 e q τ ke us me pl c nx K den cnt → EV Γ MX3_visit d 82 [some (.ref dg), none, some (.int (moreI sg)), some (.int (nI (2 ^ k))), some (.int (nI (ctp (fun i => 2 ≤ i ∧ PR F e q (den i)) nx))), some (.int (nI e)), some (.int (nI (2 ^ e))), some (.int (nI q)), none] [] τ (fun o σ' => ∃ r : Int32, o = .inl (some (.int r)) ∧ VP Γ sg F (v0 + 1) dg pa ke0 us0 me0 pl0 c0 nx0 K0 den0 cnt0 σ1 r σ') := by
          refine upto (2 ^ e) ?_ (fun q hq ih2 => ?_)
          · intro τ ke us me pl c nx K den cnt W
            have fin : EV Γ MX3_visit d 68 [some (.ref dg), none, some (.int (moreI sg)), some (.int (nI (2 ^ k))), some (.int (nI (ctp (fun i => 2 ≤ i ∧ PR F e (2 ^ e) (den i)) nx))), some (.int (nI e - 1)), none, none, none] [] τ (fun o σ' => ∃ r : Int32, o = .inl (some (.int r)) ∧ VP Γ sg F (v0 + 1) dg pa ke0 us0 me0 pl0 c0 nx0 K0 den0 cnt0 σ1 r σ') := by
              cases e with
              | zero =>
                have := ih (by omega) τ ke us me pl c nx K den cnt W
                exact this
              | succ e =>
                have PN := PR_next F e
                have := ih (by omega) τ ke us me pl c nx K den cnt (VI_cong W (e2 := e) (q2 := 0) (fun g => (PN g).symm) (fun p a b => ⟨by omega, by rw [if_pos b, if_neg (by omega)]⟩) (made_next e))
                rw [if_neg (by omega), Nat.add_sub_cancel] at this
                rw [show ctp (fun i => 2 ≤ i ∧ PR F (e + 1) (2 ^ (e + 1)) (den i)) nx = ctp (fun i => 2 ≤ i ∧ PR F e 0 (den i)) nx from ctp_congr (fun i _ => by rw [PN])]
                exact this
            refine gX3_visit_82 ⟨fun _ => by rw [e1]; exact fin, fun _ => ⟨fun _ => by rw [e1]; exact fin, fun z => absurd ((nI_leI (by omega) (by omega)).mpr (Nat.le_refl _)) z⟩⟩
          · intro τ ke us me pl c nx K den cnt W
            exact VI_step W hk hek hq (by omega) hv2 hc0 Vc hlow (by omega) hsg (fun τ' ke us me pl c nx K den cnt W' => ih2 τ' ke us me pl c nx K den cnt W')
        exact inner 0 (by omega) τ ke us me pl c nx K den cnt W
      · -- no set has so great an element
        have pk : 2 ^ k ≤ 2 ^ e := Nat.pow_le_pow_right (by decide) hek
        refine gX3_visit_82 ⟨fun _ => ?_, fun z => absurd (by rw [show (0 : Int32) = nI 0 from rfl, nI_add]; exact (nI_leI (a := 2 ^ k) (b := 0 + 2 ^ e) (by omega) (by have : 2 ^ e < 2 ^ 12 := Nat.pow_lt_pow_right (by decide) he; omega)).mpr (by omega)) z⟩
        rw [e1]
        have pz : ∀ p, part F e p = part F (e + 1) p := fun p => part_z (part_big hFk hek)
        cases e with
        | zero =>
          have := ih (by omega) τ ke us me pl c nx K den cnt (VI_cong W (e2 := 0) (q2 := 1) (fun g => ⟨fun z => absurd z (PR_skip hFk hek 1 g), fun z => absurd z (PR_skip hFk hek 0 g)⟩) (fun p a b => ⟨b, by rw [if_neg (by omega), if_pos (by omega), pz]⟩) (made_le 0 0))
          rw [show ctp (fun i => 2 ≤ i ∧ PR F 0 0 (den i)) nx = ctp (fun i => 2 ≤ i ∧ PR F (0 - 1) (if 0 = 0 then 1 else 0) (den i)) nx from ctp_congr (fun i _ => ⟨fun z => absurd z.2 (PR_skip hFk hek 0 _), fun z => absurd z.2 (PR_skip hFk hek 1 _)⟩)]
          exact this
        | succ e =>
          have PN := PR_next F e
          have no1 : ∀ g, ¬ PR F e 0 g := fun g z => PR_skip hFk hek _ g ((PN g).mpr z)
          have := ih (by omega) τ ke us me pl c nx K den cnt (VI_cong W (e2 := e) (q2 := 0) (fun g => ⟨fun z => absurd z (no1 g), fun z => absurd z (PR_skip hFk hek 0 g)⟩) (fun p a b => ⟨by omega, by rw [if_neg (by omega), if_neg (by omega), pz]⟩) (made_up e))
          rw [if_neg (by omega), Nat.add_sub_cancel] at this
          rw [show ctp (fun i => 2 ≤ i ∧ PR F (e + 1) 0 (den i)) nx = ctp (fun i => 2 ≤ i ∧ PR F e 0 (den i)) nx from ctp_congr (fun i _ => ⟨fun z => absurd z.2 (PR_skip hFk hek 0 _), fun z => absurd z.2 (no1 _)⟩)]
          exact this
  -- the bits into parts
  have L : ∀ m, m ≤ 2 ^ k → EV Γ MX3_visit d 8 [some (.ref dg), some (.ref row), some (.int (moreI sg)), some (.int (nI (2 ^ k))), some (.int (nI m)), none, none, none, none] [] (rowI σ1 pa (fl (fun m => b2i (F m)) (gi σ1 pa) m)) (fun o σ' => ∃ r : Int32, o = .inl (some (.int r)) ∧ VP Γ sg F (v0 + 1) dg pa ke0 us0 me0 pl0 c0 nx0 K0 den0 cnt0 σ1 r σ') := by
    refine upto _ ?_ (fun m hm ih => ?_)
    · refine gX3_visit_8 ⟨fun _ => ?_, fun z => absurd ((nI_leI (by omega) (by omega)).mpr (Nat.le_refl _)) z⟩
      refine gX3_visit_51 ⟨D0, fun σ2 h2 => ?_⟩
      obtain ⟨VA, meA⟩ := V.pa (f := fl (fun m => b2i (F m)) (gi σ1 pa) (2 ^ k)) rfl
      generalize hA : rowI σ1 pa (fl (fun m => b2i (F m)) (gi σ1 pa) (2 ^ k)) = σA at VA meA h2
      have paA : gi σA pa = fl (fun m => b2i (F m)) (gi σ1 pa) (2 ^ k) := by rw [← hA, gi_row]
      obtain ⟨DA, Ak, An, Av, Au, Ac, Am, Ai⟩ := VA
      obtain ⟨A0, A1, A2, A3, A4, A5, A6, A7, A8, A9, A10, _, _, _, _, _, _, A11, A12, A13, A14, A15, A16, A17, A18⟩ := DA
      rw [Av, nI_1] at h2
      have d2 : gi σ2 dg = up (gi σA dg) 6 (nI (v0 + 1)) := by rw [h2, gi_setI_s]
      have o2 : ∀ b, b ≠ dg → gi σ2 b = gi σA b := fun b hb => by rw [h2, gi_setI_n _ _ _ hb]
      have gk : gj σ2 = gj σA := by rw [h2]; rfl
      have gh : hs σ2 = hs σA := by rw [h2]; rfl
      have gg : gr σ2 = gr σA := by rw [h2]; rfl
      have V2 : DV σ2 dg pa ke0 us0 me0 pl0 c0 nx0 K0 den0 cnt0 (v0 + 1) := by
        refine ⟨?_, by rw [gk]; exact Ak, An, by rw [d2, up_same], by rw [o2 _ (Ne.symm dgu)]; exact Au, Ac, fun i a b => ?_, by rw [d2, up_ne _ _ (by decide)]; exact Ai⟩
        · unfold DG
          rw [gh, gg, gk, o2 _ (Ne.symm dgu), o2 _ (Ne.symm dgm), o2 _ (Ne.symm dgl), d2, up_ne _ _ (by decide)]
          exact ⟨A0, A1, A2, A3, A4, A5, A6, A7, A8, A9, A10, n1, n2, n3, n4, n5, n6, A11, A12, A13, A14, A15, A16, A17, A18⟩
        · rw [o2 _ (Ne.symm dgm)]
          obtain ⟨w, w1, w2⟩ := Am i a b
          exact ⟨w, by omega, w2⟩
      have no : ∀ g, ¬ PR F 11 0 g := fun g ⟨e', p', a, b, _⟩ => by omega
      have F2 : FR (fun a => a = pa ∨ dO dg ke0 us0 me0 pl0 (lo Γ + hc σ1) a) σ1 σ2 := by
        rw [h2, ← hA]
        exact (FR.rowI _ _ (Or.inl rfl)).trans (FR.setI _ _ _ (Or.inr (Or.inl rfl)))
      have W : VI Γ sg F k (v0 + 1) dg pa ke0 us0 me0 pl0 c0 nx0 K0 den0 cnt0 σ1 11 0 σ2 ke0 us0 me0 pl0 c0 nx0 K0 den0 cnt0 := by
        refine ⟨V2, Nat.le_refl _, fun i _ => ⟨rfl, rfl⟩, fun p a b => ?_, fun i a b => ?_, fun g hg => absurd hg (no g), fun i a b => by rw [bd_false.mpr (no _)]; rfl, Nat.le_add_right _ _, F2, by rw [h2, ← hA]; rfl, by rw [h2, ← hA]; rfl, Or.inl rfl, Or.inl rfl, Or.inl rfl, Or.inl rfl, Nat.le_refl _⟩
        · rw [o2 _ (Ne.symm dgp), paA, fl_in a, if_neg (by omega), part_12 sF]
          cases hb : F p
          · exact ⟨0, by omega, rfl, An.1⟩
          · exact ⟨1, by omega, rfl, An.2.1⟩
        · rw [o2 _ (Ne.symm dgm)]
          obtain ⟨w, w1, w2⟩ := Am i a b
          rw [w2]
          refine ⟨fun y => ?_, fun y => absurd y (no _)⟩
          have := (nI_eq (a := w) (b := v0 + 1) (by omega) (by omega)).mp y
          omega
      have := outer 12 (Nat.le_refl _) σ2 ke0 us0 me0 pl0 c0 nx0 K0 den0 cnt0 W
      rw [if_neg (by decide)] at this
      rw [show ctp (fun i => 2 ≤ i ∧ PR F (12 - 1) 0 (den0 i)) nx0 = 0 from ctp_none (fun i _ z => no _ z.2)] at this
      exact this
    · refine gX3_visit_8 ⟨fun z => absurd ((nI_leI (by omega) (by omega)).mp z) (by omega), fun _ => ⟨D0, pa, D1, 4096, D6, fun z => absurd ((nI_leI (by omega) (by omega)).mp z) (by omega), fun _ => ?_⟩⟩
      refine CI.of (d2 := 2) (has_R (σ := rowI σ1 pa (fl (fun m => b2i (F m)) (gi σ1 pa) m)) hr hn (by omega)) (by omega) (fun r τ1 hw2 hp2 => ?_)
      obtain ⟨rfl, rfl⟩ := hp2
      have ge : bs (gj (rowI σ1 pa (fl (fun m => b2i (F m)) (gi σ1 pa) m)) row) m = F m := by
        rw [← hF, fam_lt _ (by omega)]; rfl
      rw [ge, nI_1]
      refine ⟨fun z => ⟨4096, D6, m, IXn (by omega) (by omega), fun τ ht => ?_⟩, fun z => ⟨4096, D6, m, IXn (by omega) (by omega), fun τ ht => ?_⟩⟩
      · rw [fillI _ _ _ _ _ _ z.symm] at ht
        rw [ht]; exact ih
      · have e : (1 : Int32) = b2i (F m) := by
          cases q : F m
          · rw [q] at z; exact absurd rfl z
          · rfl
        rw [fillI _ _ _ _ _ _ e] at ht
        rw [ht]; exact ih
  have := L 0 (Nat.zero_le _)
  rw [rowI_fl0] at this
  exact this

