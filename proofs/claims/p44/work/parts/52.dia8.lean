/-! ROWS of Diagrams: a step of a visit. -/
theorem DV.pa {σ τ : AH} {dg pa ke us me pl c nx v : Nat} {K : Nat → Nat × Nat × Nat} {den : Nat → Nat → Bool} {cnt : Nat → Nat} (V : DV σ dg pa ke us me pl c nx K den cnt v) {f : Nat → Int32} (e : τ = rowI σ pa f) : DV τ dg pa ke us me pl c nx K den cnt v ∧ gi τ me = gi σ me := by
  obtain ⟨D, Vk, Vn, Vv, Vu, Vc, Vm, Vi⟩ := V
  obtain ⟨D0, D1, D2, D3, D4, D5, D6, D7, D8, D9, D10, n1, n2, n3, n4, n5, n6, D11, D12, D13, D14, D15, D16, D17, D18⟩ := D
  have dgp : dg ≠ pa := hs_ne D0 D6 (show (3 : Nat) ≠ 22 by decide)
  have g1 : gi τ dg = gi σ dg := by rw [e]; exact gi_rown _ _ dgp
  have g2 : gi τ us = gi σ us := by rw [e]; exact gi_rown _ _ (Ne.symm n4)
  have g3 : gi τ me = gi σ me := by rw [e]; exact gi_rown _ _ (Ne.symm n5)
  have g4 : gi τ pl = gi σ pl := by rw [e]; exact gi_rown _ _ (Ne.symm n6)
  have gk : gj τ = gj σ := by rw [e]; rfl
  have gh : hs τ = hs σ := by rw [e]; rfl
  have gg : gr τ = gr σ := by rw [e]; rfl
  refine ⟨⟨?_, by rw [gk]; exact Vk, Vn, by rw [g1]; exact Vv, by rw [g2]; exact Vu, Vc, by rw [g3]; exact Vm, by rw [g1]; exact Vi⟩, g3⟩
  unfold DG
  rw [gh, gg, g1, g2, g3, g4, gk]
  exact ⟨D0, D1, D2, D3, D4, D5, D6, D7, D8, D9, D10, n1, n2, n3, n4, n5, n6, D11, D12, D13, D14, D15, D16, D17, D18⟩
theorem made_le (e q : Nat) : made e q ≤ made e (q + 1) := by
  unfold made
  by_cases w : e < 9
  · rw [if_pos w, if_pos w]; omega
  · rw [if_neg w, if_neg w]; exact Nat.le_refl _
theorem cntv_lt {sg : Bool} {c : Nat} {b : Bool} (h : c ≤ 1000) : cntv sg c b < 2 ^ 20 := by
  unfold cntv inc
  cases b <;> cases sg <;> simp <;> omega
theorem VI_step {Γ : Gm} {sg : Bool} {F : Nat → Bool} {k v dg pa ke0 us0 me0 pl0 c0 nx0 : Nat} {K0 : Nat → Nat × Nat × Nat} {den0 : Nat → Nat → Bool} {cnt0 : Nat → Nat} {σ τ : AH} {e q : Nat} {ke us me pl c nx : Nat} {K : Nat → Nat × Nat × Nat} {den : Nat → Nat → Bool} {cnt : Nat → Nat} {d : Nat} {Q : Oc → AH → Prop}
    (V : VI Γ sg F k v dg pa ke0 us0 me0 pl0 c0 nx0 K0 den0 cnt0 σ e q τ ke us me pl c nx K den cnt)
    (hk : k ≤ 12) (hek : e < k) (hq : q < 2 ^ e) (hv1 : 1 ≤ v) (hv2 : v < 2 ^ 20) (hc0 : ∀ i, cnt0 i ≤ 1000) (hz0 : ∀ i, nx0 ≤ i → cnt0 i = 0) (hlow : lowc K0 nx0 ≤ 2 ^ 19) (hd : 8 ≤ d)
    (hsg : sg = false → ∀ g, NP F g → ∃ i, 2 ≤ i ∧ i < nx0 ∧ den0 i = g ∧ 1 ≤ cnt0 i)
    (next : ∀ τ' ke us me pl c nx K den cnt, VI Γ sg F k v dg pa ke0 us0 me0 pl0 c0 nx0 K0 den0 cnt0 σ e (q + 1) τ' ke us me pl c nx K den cnt → EV Γ MX3_visit d 82 [some (.ref dg), none, some (.int (moreI sg)), some (.int (nI (2 ^ k))), some (.int (nI (ctp (fun i => 2 ≤ i ∧ PR F e (q + 1) (den i)) nx))), some (.int (nI e)), some (.int (nI (2 ^ e))), some (.int (nI (q + 1))), none] [] τ' Q) :
    EV Γ MX3_visit d 82 [some (.ref dg), none, some (.int (moreI sg)), some (.int (nI (2 ^ k))), some (.int (nI (ctp (fun i => 2 ≤ i ∧ PR F e q (den i)) nx))), some (.int (nI e)), some (.int (nI (2 ^ e))), some (.int (nI q)), none] [] τ Q := by
  refine EV.wf (fun W0 => ?_)
  obtain ⟨V, hnx, Kd, Pt, Me, Ex, Cn, Lo, Fr, rc, rv, oke, ous, ome, opl, cc⟩ := V
  have D := V.1
  have NTt := V.2.2.1
  obtain ⟨D0, D1, D2, D3, D4, D5, D6, D7, D8, D9, D10, n1, n2, n3, n4, n5, n6, D11, D12, D13, D14, D15, D16, D17, D18⟩ := D
  have he : e < 12 := by omega
  have pe := Nat.two_pow_pos e
  have p1 : 2 ^ (e + 1) = 2 ^ e + 2 ^ e := by rw [Nat.pow_succ]; omega
  have pk : 2 ^ (e + 1) ≤ 2 ^ k := Nat.pow_le_pow_right (by decide) (by omega)
  have pk2 : 2 ^ k ≤ 2 ^ 12 := Nat.pow_le_pow_right (by decide) hk
  have sz := NTt.size D12
  have mb : made e q ≤ 512 := by
    unfold made
    by_cases z : e < 9
    · have : 2 ^ (e + 1) ≤ 2 ^ 9 := Nat.pow_le_pow_right (by decide) (by omega)
      rw [if_pos z]; omega
    · rw [if_neg z]; omega
  have nx20 : nx < 2 ^ 20 := by omega
  obtain ⟨xh, xhn, xhv, xhd⟩ := Pt (q + 2 ^ e) (by omega) (by omega)
  obtain ⟨xl, xln, xlv, xld⟩ := Pt q (by omega) (by omega)
  rw [if_neg (by omega)] at xhd xld
  have bs0 : lo Γ + hc σ ≤ lo Γ + hc τ := Nat.add_le_add_left Fr.1 _
  refine gX3_visit_82 ⟨fun z => absurd ((nI_leI (a := 2 ^ k) (b := q + 2 ^ e) (by omega) (by omega)).mp (by rw [← nI_add]; exact z)) (by omega), fun _ => ⟨fun z => absurd ((nI_leI (a := 2 ^ e) (b := q) (by omega) (by omega)).mp z) (by omega), fun _ => ⟨D0, pa, D1, 4096, D6, q + 2 ^ e, by rw [nI_add]; exact IXn (by omega) (by omega), ?_⟩⟩⟩
  rw [xhv]
  have z0 : nI xh = 0 ↔ xh = 0 := by
    rw [show (0 : Int32) = nI 0 from rfl]
    exact nI_eq (by omega) (by decide)
  have zz : xh = 0 ↔ part F (e + 1) (q + 2 ^ e) = zf := by
    constructor
    · intro z; rw [← xhd, z]; exact NTt.1
    · intro z; exact NTt.2.2.2.1 xh 0 xhn (by omega) (by rw [xhd, z]; exact NTt.1.symm)
  rw [z0, nI_1]
  refine ⟨fun z => ?_, fun z => ⟨q, IXn (by omega) (by omega), ?_⟩⟩
  · -- no node here
    have hzf := zz.mp z
    have PZ := PR_zero hzf
    have W := next τ ke us me pl c nx K den cnt ⟨V, hnx, Kd, fun p h1 h2 => ?_, fun i a b => by rw [PZ]; exact Me i a b, fun g hg => Ex g ((PZ g).mp hg), fun i a b => by rw [bd_congr (PZ (den i))]; exact Cn i a b, Nat.le_trans Lo (Nat.add_le_add_left (made_le e q) _), Fr, rc, rv, oke, ous, ome, opl, cc⟩
    · rw [show ctp (fun i => 2 ≤ i ∧ PR F e (q + 1) (den i)) nx = ctp (fun i => 2 ≤ i ∧ PR F e q (den i)) nx from ctp_congr (fun i _ => by rw [PZ])] at W
      exact W
    · obtain ⟨x, a, b, cx⟩ := Pt p h1 h2
      refine ⟨x, a, b, ?_⟩
      rw [cx]
      by_cases w : p = q
      · rw [w, if_neg (by omega), if_pos (by omega), part_z hzf]
      · by_cases w2 : p < q
        · rw [if_pos w2, if_pos (by omega)]
        · rw [if_neg w2, if_neg (by omega)]
  · have hnz : part F (e + 1) (q + 2 ^ e) ≠ zf := fun w => z (zz.mpr w)
    have PO := PR_one he hnz
    rw [xlv]
    refine CI.of (d2 := 6) (node_R V nx20 he xln xhn z (by rw [xld]; exact part_lev _ _ _) (by rw [xhd]; exact part_lev _ _ _) (by omega)) (by omega) (fun r τ1 hw1 e1 => ?_)
    obtain ⟨ke1, us1, me1, pl1, c1, nx1, K1, den1, id, rfl, V1, i2, il, di, nle, KD1, lo1, me1o, me1n, F1, rc1, rv1, o1, o2, o3, o4, cc1⟩ := e1
    rw [xld, xhd, ← part_s] at di
    have D1' := V1.1
    have NT1 := V1.2.2.1
    have paq : gi τ1 pa = gi τ pa := by
      refine F1.gi (fun w => ?_)
      rcases w with w | w | w | w | w | w
      · exact hs_ne D0 D6 (show (3 : Nat) ≠ 22 by decide) w.symm
      · exact hs_ne D7 D6 (show (23 : Nat) ≠ 22 by decide) w.symm
      · exact n4 w
      · exact n5 w
      · exact n6 w
      · have := W0.1 pa _ D6
        omega
    refine ⟨D1'.1, pa, D1'.2.1, 4096, D1'.2.2.2.2.2.2.1, q, IXn (by omega) (by omega), fun τ2 h2 => ?_⟩
    have h2' : τ2 = rowI τ1 pa (up (gi τ1 pa) q (nI id)) := h2
    obtain ⟨V2, me2⟩ := V1.pa h2'
    -- what was met before, now in the new table
    have X1 : ∀ i, i < nx1 → nx ≤ i → ¬ PR F e q (den1 i) := by
      intro i hi hn hp
      obtain ⟨j, j2, jn, je⟩ := Ex _ hp
      have := NT1.2.2.2.1 j i (by omega) hi (by rw [(KD1 j jn).2]; exact je)
      omega
    have meX : ∀ i, 2 ≤ i → i < nx1 → (gi τ2 me1 i = nI v ↔ PR F e q (den1 i)) := by
      intro i a b
      rw [me2]
      rcases Nat.lt_or_ge i nx with w | w
      · rw [me1o i w, (KD1 i w).2]; exact Me i a w
      · rw [me1n i w b]
        exact ⟨fun y => absurd y.symm (nI_ne0 (by omega) (by omega)), fun y => absurd y (X1 i b w)⟩
    have cntX : ∀ i, 2 ≤ i → i < nx1 → cnt i = cntv sg (cnt0 i) (bd (PR F e q (den1 i))) := by
      intro i a b
      rcases Nat.lt_or_ge i nx with w | w
      · rw [(KD1 i w).2]; exact Cn i a w
      · rw [V.2.2.2.2.2.1 i w, hz0 i (by omega), bd_false.mpr (X1 i b w)]; rfl
    have cl : cnt id < 2 ^ 20 := by rw [cntX id i2 il]; exact cntv_lt (hc0 id)
    have sgX : sg = false → gi τ2 me1 id ≠ nI v → 1 ≤ cnt id := by
      intro w w2
      obtain ⟨j, j2, jn, je, jc⟩ := hsg w (part F e q) ⟨e, q, he, hq, hnz, rfl⟩
      have ej : den1 j = den1 id := by rw [(KD1 j (by omega)).2, (Kd j jn).2, je, di]
      have := NT1.2.2.2.1 j id (by omega) il ej
      rw [cntX id i2 il, bd_false.mpr (fun y => w2 ((meX id i2 il).mpr y)), ← this]
      exact jc
    have oneId : ∀ i, i < nx1 → (den1 i = part F e q ↔ i = id) := fun i hi => ⟨fun w => NT1.2.2.2.1 i id hi il (by rw [w, di]), fun w => by rw [w, di]⟩
    have ctX : ctp (fun i => 2 ≤ i ∧ PR F e q (den1 i)) nx1 = ctp (fun i => 2 ≤ i ∧ PR F e q (den i)) nx := by
      obtain ⟨m, rfl⟩ : ∃ m, nx1 = nx + m := ⟨nx1 - nx, by omega⟩
      rw [ctp_split, ctp_none (P := fun k => 2 ≤ nx + k ∧ PR F e q (den1 (nx + k))) (fun x hx h => X1 (nx + x) (by omega) (by omega) h.2), Nat.add_zero]
      exact ctp_congr (fun i hi => by rw [(KD1 i hi).2])
    have P1 : ∀ x y, (x = y ∨ lo Γ + hc τ ≤ x) → (y = ke0 ∨ lo Γ + hc σ ≤ y) → (x = ke0 ∨ lo Γ + hc σ ≤ x) := fun x y h h' => by omega
    have Pw : ∀ w x y, (x = y ∨ lo Γ + hc τ ≤ x) → (y = w ∨ lo Γ + hc σ ≤ y) → (x = w ∨ lo Γ + hc σ ≤ x) := fun w x y h h' => by omega
    have w1 := Pw ke0 ke1 ke o1 oke
    have w2 := Pw us0 us1 us o2 ous
    have w3 := Pw me0 me1 me o3 ome
    have w4 := Pw pl0 pl1 pl o4 opl
    have FA : FR (fun a => a = pa ∨ dO dg ke0 us0 me0 pl0 (lo Γ + hc σ) a) σ τ2 := by
      refine (Fr.trans (F1.mono (fun a ha => Or.inr ?_))).trans (by rw [h2']; exact FR.rowI _ _ (Or.inl rfl))
      rcases ha with w | w | w | w | w | w
      · exact Or.inl w
      · rcases oke with y | y
        · exact Or.inr (Or.inl (w.trans y))
        · exact Or.inr (Or.inr (Or.inr (Or.inr (Or.inr (by omega)))))
      · rcases ous with y | y
        · exact Or.inr (Or.inr (Or.inl (w.trans y)))
        · exact Or.inr (Or.inr (Or.inr (Or.inr (Or.inr (by omega)))))
      · rcases ome with y | y
        · exact Or.inr (Or.inr (Or.inr (Or.inl (w.trans y))))
        · exact Or.inr (Or.inr (Or.inr (Or.inr (Or.inr (by omega)))))
      · rcases opl with y | y
        · exact Or.inr (Or.inr (Or.inr (Or.inr (Or.inl (w.trans y)))))
        · exact Or.inr (Or.inr (Or.inr (Or.inr (Or.inr (by omega)))))
      · exact Or.inr (Or.inr (Or.inr (Or.inr (Or.inr (by omega)))))
    have rcA : hc τ2 + 4 * c0 = hc σ + 4 * c1 := by rw [h2']; show hc τ1 + _ = _; omega
    have rvA : hv τ2 + 5 * 2 ^ (c0 + 1) = hv σ + 5 * 2 ^ (c1 + 1) := by rw [h2']; show hv τ1 + _ = _; omega
    have paA : gi τ2 pa = up (gi τ pa) q (nI id) := by rw [h2', gi_row, paq]
    have ptA : ∀ p, p < 2 ^ k → p < 2 ^ (e + 1) → ∃ x, x < nx1 ∧ gi τ2 pa p = nI x ∧ den1 x = if p < q + 1 then part F e p else part F (e + 1) p := by
      intro p h1 h2
      rw [paA]
      by_cases w : p = q
      · rw [w]
        exact ⟨id, il, up_same _ _ _, by rw [if_pos (by omega), di]⟩
      · obtain ⟨x, a, b, cx⟩ := Pt p h1 h2
        refine ⟨x, by omega, by rw [up_ne _ _ w]; exact b, ?_⟩
        rw [(KD1 x a).2, cx]
        by_cases w2 : p < q
        · rw [if_pos w2, if_pos (by omega)]
        · rw [if_neg w2, if_neg (by omega)]
    have kdA : ∀ i, i < nx0 → K1 i = K0 i ∧ den1 i = den0 i := fun i hi => ⟨(KD1 i (by omega)).1.trans (Kd i hi).1, (KD1 i (by omega)).2.trans (Kd i hi).2⟩
    have exA : ∀ g, PR F e (q + 1) g → ∃ i, 2 ≤ i ∧ i < nx1 ∧ den1 i = g := by
      intro g hg
      rcases (PO g).mp hg with w | w
      · obtain ⟨i, a, b, ei⟩ := Ex g w
        exact ⟨i, a, by omega, by rw [(KD1 i b).2]; exact ei⟩
      · exact ⟨id, i2, il, by rw [w, di]⟩
    have loA : lowc K1 nx1 ≤ lowc K0 nx0 + made e (q + 1) := by
      have : made e (q + 1) = made e q + (if e < 9 then 1 else 0) := by
        unfold made
        by_cases w : e < 9
        · rw [if_pos w, if_pos w, if_pos w]; omega
        · rw [if_neg w, if_neg w, if_neg w]
      omega
    refine CI.of (d2 := 6) (markV_R sg V2 i2 il cl sgX) (by omega) (fun r τ3 hw3 e3 => ?_)
    rcases e3 with ⟨rfl, rfl, em⟩ | ⟨rfl, ne, V3, em, C3⟩
    · have had := (meX id i2 il).mp em
      have PE : ∀ i, i < nx1 → (PR F e (q + 1) (den1 i) ↔ PR F e q (den1 i)) := fun i hi => by
        rw [PO]
        refine ⟨fun w => ?_, fun w => Or.inl w⟩
        rcases w with w | w
        · exact w
        · rw [(oneId i hi).mp w]; exact had
      have W := next τ3 ke1 us1 me1 pl1 c1 nx1 K1 den1 cnt ⟨V2, by omega, kdA, ptA, fun i a b => by rw [PE i b]; exact meX i a b, exA, fun i a b => by rw [bd_congr (PE i b)]; exact cntX i a b, loA, FA, rcA, rvA, w1, w2, w3, w4, by omega⟩
      rw [ctp_congr (P := fun i => 2 ≤ i ∧ PR F e (q + 1) (den1 i)) (Q := fun i => 2 ≤ i ∧ PR F e q (den1 i)) (fun i hi => by rw [PE i hi]), ctX] at W
      rw [Int32.add_zero]
      exact W
    · have nhad : ¬ PR F e q (den1 id) := fun w => ne ((meX id i2 il).mpr w)
      have PE : ∀ i, i < nx1 → (PR F e (q + 1) (den1 i) ↔ (PR F e q (den1 i) ∨ i = id)) := fun i hi => by rw [PO, oneId i hi]
      have D3' := V2.1
      have pa3 : gi τ3 pa = gi τ2 pa := by
        refine C3.gi (fun w => ?_)
        rcases w with w | w | w
        · exact hs_ne D3'.1 D3'.2.2.2.2.2.2.1 (show (3 : Nat) ≠ 22 by decide) w.symm
        · exact D3'.2.2.2.2.2.2.2.2.2.2.2.2.2.2.1 w
        · exact D3'.2.2.2.2.2.2.2.2.2.2.2.2.2.2.2.1 w
      have F3 : FR (fun a => a = pa ∨ dO dg ke0 us0 me0 pl0 (lo Γ + hc σ) a) σ τ3 := by
        refine FA.trans (FR.chg C3 (fun a ha => Or.inr ?_) (fun a ha => ha.elim))
        rcases ha with w | w | w
        · exact Or.inl w
        · rcases w2 with y | y
          · exact Or.inr (Or.inr (Or.inl (w.trans y)))
          · exact Or.inr (Or.inr (Or.inr (Or.inr (Or.inr (by omega)))))
        · rcases w3 with y | y
          · exact Or.inr (Or.inr (Or.inr (Or.inl (w.trans y))))
          · exact Or.inr (Or.inr (Or.inr (Or.inr (Or.inr (by omega)))))
      have W := next τ3 ke1 us1 me1 pl1 c1 nx1 K1 den1 (up cnt id (inc sg (cnt id))) ⟨V3, by omega, kdA, fun p a b => by rw [pa3]; exact ptA p a b, fun i a b => ?_, exA, fun i a b => ?_, loA, F3, by rw [C3.1]; exact rcA, by rw [C3.2.1]; exact rvA, w1, w2, w3, w4, by omega⟩
      · have U := ctp_upd (P := fun i => 2 ≤ i ∧ PR F e q (den1 i)) (Q := fun i => 2 ≤ i ∧ PR F e (q + 1) (den1 i)) il (fun i hi hne => by rw [PE i hi]; simp [hne])
        rw [bd_false.mpr (fun w => nhad w.2), if_neg (by decide), bd_true.mpr ⟨i2, (PE id il).mpr (Or.inr rfl)⟩, if_pos rfl, ctX] at U
        rw [show ctp (fun i => 2 ≤ i ∧ PR F e (q + 1) (den1 i)) nx1 = ctp (fun i => 2 ≤ i ∧ PR F e q (den i)) nx + 1 from (Nat.add_zero _).symm.trans U] at W
        rw [nI_1]
        exact W
      · rw [em, PE i b]
        by_cases w : i = id
        · rw [w, up_same]; simp
        · rw [up_ne _ _ w, meX i a b]; simp [w]
      · by_cases w : i = id
        · rw [w, up_same, bd_true.mpr ((PE id il).mpr (Or.inr rfl)), cntX id i2 il, bd_false.mpr nhad]; rfl
        · rw [up_ne _ _ w, cntX i a b, bd_congr (show PR F e (q + 1) (den1 i) ↔ PR F e q (den1 i) by rw [PE i b]; simp [w])]

