/-! ROWS of the model: writing. -/
section MWRT
variable {Γ : Gm} {d : Nat} {σ : AH} {own mad : Nat → Nat} {S : StT} {c : Nat}
/-- a walk that only wrote output -/
def MWr (Γ : Gm) (σ : AH) (own mad : Nat → Nat) (S : StT) (c : Nat) (τ : AH) (a : OutT) : Prop := RepM Γ τ own mad (stW S a) c ∧ FR (RP MW own (lo Γ + hc σ)) σ τ ∧ hc τ = hc σ ∧ hv τ = hv σ ∧ gi τ (mad 0) 0 = 0
theorem MWr.letter {τ : AH} {a : OutT} {x : Int32} {K : AH → Prop} {KX : String → AH → Prop} (h : MWr Γ σ own mad S c τ a) (l : a.2 < 1000) (k : ∀ τ', MWr Γ σ own mad S c τ' (put1 a x) → K τ') (hd : 1 ≤ d) : CV Γ d MX9_letter [.ref (mad 0), .int x] τ K KX := by
  obtain ⟨R, F0, c0, v0, g0⟩ := h
  have y4 : gi τ (mad 0) 4 = nI a.2 := R.2.2.2.1.2.1
  refine CV.of (d2 := 0) (P := fun σ' => σ' = setI (setI τ (mad 2) a.2 (bx x)) (mad 0) 4 (nI (a.2 + 1))) ?_ (by omega) (fun σ' W' q => ?_)
  · refine eX9_letter ⟨R.2.1.1, mad 2, R.2.1.2.2.1, 1000, R.2.2.1.2.1, a.2, by rw [y4]; exact IXn (by omega) (by omega), fun σ8 e8 σ13 e13 => ⟨rfl, ?_⟩⟩
    have n02 : mad 0 ≠ mad 2 := R.ne (by omega) (by omega) (by omega)
    rw [nar_byte] at e8
    have g1 : gi σ8 (mad 0) = gi τ (mad 0) := by rw [e8]; exact up_ne _ _ n02
    rw [g1, y4, nI_1] at e13
    rw [e13, e8]; rfl
  · refine k σ' ⟨?_, ?_, by rw [q]; exact c0, by rw [q]; exact v0, ?_⟩
    · have F : FR (MDs mad) τ σ' := by rw [q]; exact (FR.setI _ _ _ ⟨2, by omega, rfl⟩).trans (FR.setI _ _ _ ⟨0, by omega, rfl⟩)
      have n02 : mad 0 ≠ mad 2 := R.ne (by omega) (by omega) (by omega)
      have g0' : gi σ' (mad 0) = up (gi τ (mad 0)) 4 (nI (a.2 + 1)) := by rw [q]; exact (up_same _ _ _).trans (by rw [show gi (setI τ (mad 2) a.2 (bx x)) (mad 0) = gi τ (mad 0) from up_ne _ _ n02])
      have g2' : gi σ' (mad 2) = up (gi τ (mad 2)) a.2 (bx x) := by rw [q]; exact (up_ne _ _ n02.symm).trans (up_same _ _ _)
      have gn : ∀ i, i < 12 → i ≠ 0 → i ≠ 2 → gi σ' (mad i) = gi τ (mad i) := fun i hi h0 h2 => by rw [q]; exact (up_ne _ _ (R.ne hi (by omega) h0)).trans (up_ne _ _ (R.ne hi (by omega) h2))
      have R' := R
      obtain ⟨O, x1, x2, ⟨y1, y2, y3, y4, y5, y6⟩, ⟨t1, t2, t3, t4, t5, t6⟩, x5, ⟨z1, z2, z3, z4, z5, z6, z7, z8⟩⟩ := R'
      refine R.ints F (by rw [q]; rfl) (by rw [q]; rfl) ?_ ?_ ⟨z1, by show a.2 + 1 ≤ 1000; omega, z3, z4, z5, z6, z7, z8⟩
      · unfold M3
        rw [g0']
        exact ⟨(up_ne _ _ (by decide)).trans y1, up_same _ _ _, (up_ne _ _ (by decide)).trans y3, (up_ne _ _ (by decide)).trans y4, (up_ne _ _ (by decide)).trans y5, (up_ne _ _ (by decide)).trans y6⟩
      · unfold M4
        rw [g2', gn 1 (by omega) (by omega) (by omega), gn 3 (by omega) (by omega) (by omega), gn 5 (by omega) (by omega) (by omega), gn 6 (by omega) (by omega) (by omega), show gj σ' = gj τ by rw [q]; rfl]
        refine ⟨t1, fun i hi => ?_, t3, t4, t5, t6⟩
        have hi : i < a.2 + 1 := hi
        show up (gi τ (mad 2)) a.2 (bx x) i = up a.1 a.2 (bx x) i
        by_cases e : i = a.2
        · rw [e, up_same, up_same]
        · rw [up_ne _ _ e, up_ne _ _ e]
          exact t2 i (show i < a.2 by omega)
    · rw [q]
      refine (F0.trans (FR.setI _ _ _ ?_)).trans (FR.setI _ _ _ ?_)
      · exact Or.inl (by rw [(R.1 2 (by omega)).1]; unfold MW; omega)
      · exact Or.inl (by rw [(R.1 0 (by omega)).1]; unfold MW; omega)
    · rw [q]
      exact (congrFun (up_same _ _ _) 0).trans ((up_ne _ _ (by decide)).trans ((congrFun (up_ne _ _ (R.ne (by omega) (by omega) (by omega))) 0).trans g0))
theorem MWr.start {τ : AH} (R : RepM Γ τ own mad S c) (F0 : FR (RP MW own (lo Γ + hc σ)) σ τ) (c0 : hc τ = hc σ) (v0 : hv τ = hv σ) (g : gi τ (mad 0) 0 = 0) : MWr Γ σ own mad S c (setI τ (mad 0) 4 0) (sO S, 0) := by
  obtain ⟨x1, x2, x3, x4, x5, x6⟩ := R.2.2.2.1
  have g0 : gi (setI τ (mad 0) 4 0) (mad 0) = up (gi τ (mad 0)) 4 0 := up_same _ _ _
  obtain ⟨z1', z2', z3, z4, z5, z6, z7, z8⟩ := R.2.2.2.2.2.2
  have H := R.fld (S' := stW S (sO S, 0)) (i := 4) (x := 0) (by
    unfold M3
    rw [g0]
    exact ⟨(up_ne _ _ (by decide)).trans x1, up_same _ _ _, (up_ne _ _ (by decide)).trans x3, (up_ne _ _ (by decide)).trans x4, (up_ne _ _ (by decide)).trans x5, (up_ne _ _ (by decide)).trans x6⟩) ⟨z1', by show 0 ≤ 1000; omega, z3, z4, z5, z6, z7, z8⟩ (fun j hj => ⟨hj, rfl⟩) (fun j hj => absurd hj (Nat.not_lt_zero j)) rfl rfl (fun j hj => ⟨hj, rfl⟩) rfl rfl
  exact ⟨H.1, F0.trans ((H.2.mono (fun _ z => R.md z)).mw (by rw [c0])), c0, v0, by rw [g0]; exact (up_ne _ _ (by decide)).trans g⟩
theorem wU_le (m : Nat) {e : Nat} (he : e < 12) (h : m.testBit e = true) : popN e m + 1 ≤ popN 12 m := by
  have h1 : popN (e + 1) m = popN e m + 1 := by
    show fb_ct _ (e + 1) = _
    rw [fb_ct_succ, if_pos h]; rfl
  have h2 : popN (e + 1) m ≤ popN 12 m := fb_ct_mono _ (by omega)
  omega
theorem mwrite_C {f : Int32} (R : RepM Γ σ own mad S c) (hd : 4 ≤ d) : CMN Γ d MX9_write [.ref (mad 0), .int f] σ own mad c (aWrite S f) := by
  refine RUN.wf (fun W => eX9_write ⟨R.2.1.1, mlook_call R ⟨R.2.1.1, fun σ5 e5 => ?_⟩ (by omega)⟩)
  obtain ⟨R5, F5, g5, st, W5⟩ := mq_code R W e5
  have c5 : hc σ5 = hc σ := by rw [e5]; rfl
  have v5 : hv σ5 = hv σ := by rw [e5]; rfl
  rw [g5]
  rcases fcd_le S f with e | e | e
  · have pre : aWrite S f = if 1000 < wL (sF S (ixF f)) 4096 then (3, 0, S) else (0, nI (wAll (sF S (ixF f)) (sO S)).2, stW S (wAll (sF S (ixF f)) (sO S))) := (if_neg (by omega)).trans (if_neg (by omega))
    rw [e] at g5 ⊢
    refine ⟨fun _ => ?_, fun z => absurd rfl z⟩
    have hasE : ∀ {τ : AH} {a : OutT} {m : Nat} {K : Int32 → AH → Prop} {KX : String → AH → Prop}, MWr Γ σ own mad S c τ a → m < 4096 → K (b2i (sF S (ixF f) m)) τ → CI Γ d MX9_has [.ref (mad 4), .int f, .int (nI m)] τ K KX := fun h hm k => mhas_call h.1 e hm k (by omega)
    generalize hF : sF S (ixF f) = F at *
    have sz := wS_le F 4096
    have wlb : ∀ m, m ≤ 4096 → wL F m < 2 ^ 20 := fun m hm => by
      have h0 := wL_mono F hm
      have h3 := fb_ct_le F 4096
      rcases wL_S F 4096 with ⟨h1, h2, h3⟩ | ⟨h1, h0, h2⟩
      · omega
      · omega
    -- the letters
    have main : wL F 4096 ≤ 1000 → ∀ τ, MWr Γ σ own mad S c τ (sO S, 0) → EV Γ MX9_write d 88 [some (.ref (mad 0)), some (.int f), none, some (.int 0), none] [] τ (fun oc σ' => ansM (aWrite S f) (mad 0) oc σ' ∧ StepM Γ σ own mad c (aWrite S f).2.2 σ') := by
      intro wl
      have hA : aWrite S f = (0, nI (wAll F (sO S)).2, stW S (wAll F (sO S))) := pre.trans (if_neg (by omega))
      rw [hA]
      have fin : ∀ τ, MWr Γ σ own mad S c τ (wAll F (sO S)) → ansM (0, nI (wAll F (sO S)).2, stW S (wAll F (sO S))) (mad 0) (.inl (some (.int (gi τ (mad 0) 4)))) τ ∧ StepM Γ σ own mad c (stW S (wAll F (sO S))) τ := fun τ h => by
        have e4 : gi τ (mad 0) 4 = nI (wAll F (sO S)).2 := h.1.2.2.2.1.2.1
        rw [e4]
        exact ⟨⟨rfl, h.2.2.2.2⟩, StepM.same h.1 h.2.1 h.2.2.1 h.2.2.2.1⟩
      have L : ∀ m, m ≤ 4096 → ∀ τ, MWr Γ σ own mad S c τ (foldF F wH (sO S, 0) m) → EV Γ MX9_write d 88 [some (.ref (mad 0)), some (.int f), none, some (.int (nI m)), none] [] τ (fun oc σ' => ansM (0, nI (wAll F (sO S)).2, stW S (wAll F (sO S))) (mad 0) oc σ' ∧ StepM Γ σ own mad c (stW S (wAll F (sO S))) σ') := by
        refine upto 4096 (fun τ h => ?_) (fun m hm ih τ h => ?_)
        · have e4 : gi τ (mad 0) 4 = nI (foldF F wH (sO S, 0) 4096).2 := h.1.2.2.2.1.2.1
          have l4 := wF_len F (sO S) 4096 (by omega)
          have p4 : wL F 4096 = 0 ↔ cntF F = 0 := wL_pos F rfl
          have b4 := wlb 4096 (by omega)
          refine gX9_write_88 ⟨fun _ => ⟨h.1.2.1.1, fun y => ?_, fun y => ?_⟩, fun y => absurd ((c4096le (by omega)).mpr (by omega)) y⟩
          · have nz : cntF F ≠ 0 := fun t => y (by rw [e4, l4, p4.mpr t]; rfl)
            have eA : wAll F (sO S) = foldF F wH (sO S, 0) 4096 := if_neg nz
            exact fin τ (by rw [eA]; exact h)
          · rw [e4, l4] at y
            have y0 := (nI_eq (b := 0) (by omega) (by omega)).mp y
            have zz := p4.mp y0
            have eA : wAll F (sO S) = put1 (sO S, 0) 48 := if_pos zz
            have e0 : foldF F wH (sO S, 0) 4096 = (sO S, 0) := (fold_ct (b := 0) zz).trans rfl
            rw [e0] at h
            exact h.letter (show 0 < 1000 by omega) (fun τ' h' => ⟨h'.1.2.1.1, fin τ' (by rw [eA]; exact h')⟩) (by omega)
        · have la := wF_len F (sO S) m (by omega)
          have wm := wlb m (by omega)
          refine gX9_write_88 ⟨fun y => absurd ((c4096le (by omega)).mp y) (by omega), fun _ => ⟨h.1.2.1.1, mad 4, h.1.2.1.2.2.2.2.1, hasE h hm ?_⟩⟩
          cases q : F m
          · rw [fold_n q] at ih
            refine ⟨fun y => absurd rfl y, fun _ => ?_⟩
            rw [nI_1]; exact ih τ h
          · rw [fold_y q] at ih
            have ls : wL F (m + 1) = wL F m + (if wL F m = 0 then 0 else 1) + max 1 (popN 12 m) := by
              unfold wL
              rw [fold_y q]
            have lt2 := wL_mono F (show m + 1 ≤ 4096 by omega)
            have e4 : gi τ (mad 0) 4 = nI (foldF F wH (sO S, 0) m).2 := h.1.2.2.2.1.2.1
            generalize hfo : foldF F wH (sO S, 0) m = a at *
            -- its elements
            have el : ∀ a2 : OutT, a2 = (if a.2 = 0 then a else put1 a 43) → ∀ τ2, MWr Γ σ own mad S c τ2 a2 → EV Γ MX9_write d 123 [some (.ref (mad 0)), some (.int f), none, some (.int (nI m)), none] [] τ2 (fun oc σ' => ansM (0, nI (wAll F (sO S)).2, stW S (wAll F (sO S))) (mad 0) oc σ' ∧ StepM Γ σ own mad c (stW S (wAll F (sO S))) σ') := by
              intro a2 e2 τ2 h2
              have l2 : a2.2 = wL F m + (if wL F m = 0 then 0 else 1) := by
                rw [e2, ← la]
                split
                · rfl
                · rfl
              have p0 := popN_0 hm
              have l3 : (if m = 0 then put1 a2 49 else a2).2 + popN 12 m = a2.2 + max 1 (popN 12 m) := by
                by_cases y : m = 0
                · rw [if_pos y, p0.mpr y]; rfl
                · rw [if_neg y]
                  have : popN 12 m ≠ 0 := fun z => y (p0.mp z)
                  omega
              have E : ∀ e, e ≤ 12 → ∀ τ3, MWr Γ σ own mad S c τ3 (wU m e (if m = 0 then put1 a2 49 else a2)) → EV Γ MX9_write d 136 [some (.ref (mad 0)), some (.int f), none, some (.int (nI m)), some (.int (nI e))] [] τ3 (fun oc σ' => ansM (0, nI (wAll F (sO S)).2, stW S (wAll F (sO S))) (mad 0) oc σ' ∧ StepM Γ σ own mad c (stW S (wAll F (sO S))) σ') := by
                refine upto 12 (fun τ3 h3 => ?_) (fun e he ih2 τ3 h3 => ?_)
                · refine gX9_write_136 ⟨fun _ => ?_, fun y => absurd ((c12le (by omega)).mpr (by omega)) y⟩
                  rw [nI_1]
                  refine ih τ3 ?_
                  have : wH a m = wU m 12 (if m = 0 then put1 a2 49 else a2) := by rw [e2]; rfl
                  rw [this]; exact h3
                · have b1 := bit1 he hm
                  refine gX9_write_136 ⟨fun y => absurd ((c12le (by omega)).mp y) (by omega), fun _ => ⟨fun y => ?_, fun y => ⟨h3.1.2.1.1, ?_⟩⟩⟩
                  · have t : m.testBit e = false := by
                      cases t : m.testBit e
                      · rfl
                      · exact absurd (b1.mpr t) y
                    rw [nI_1]
                    refine ih2 τ3 ?_
                    have : wU m (e + 1) (if m = 0 then put1 a2 49 else a2) = wU m e (if m = 0 then put1 a2 49 else a2) := if_neg (by rw [t]; decide)
                    rw [this]; exact h3
                  · have t := b1.mp y
                    have lu := wU_len m (if m = 0 then put1 a2 49 else a2) e
                    have le := wU_le m he t
                    refine h3.letter (by omega) (fun τ4 h4 => ?_) (by omega)
                    rw [nI_1]
                    refine ih2 τ4 ?_
                    have : wU m (e + 1) (if m = 0 then put1 a2 49 else a2) = put1 (wU m e (if m = 0 then put1 a2 49 else a2)) ((97 : Int32) + nI e) := if_pos t
                    rw [this]; exact h4
              refine gX9_write_123 ⟨fun y => ?_, fun y => ⟨h2.1.2.1.1, ?_⟩⟩
              · have m0 : ¬ m = 0 := fun t => y (by rw [t]; rfl)
                refine E 0 (by omega) τ2 ?_
                show MWr Γ σ own mad S c τ2 (if m = 0 then put1 a2 49 else a2)
                rw [if_neg m0]; exact h2
              · have m0 : m = 0 := (nI_eq (b := 0) (by omega) (by omega)).mp y
                refine h2.letter (by omega) (fun τ3 h3 => E 0 (by omega) τ3 ?_) (by omega)
                show MWr Γ σ own mad S c τ3 (if m = 0 then put1 a2 49 else a2)
                rw [if_pos m0]; exact h3
            refine ⟨fun _ => ⟨h.1.2.1.1, fun y => ?_, fun y => ?_⟩, fun y => absurd y (by decide)⟩
            · rw [e4, la] at y
              have y0 := (nI_le0 (by omega)).mp y
              exact el a (if_pos (by omega)).symm τ h
            · rw [e4, la] at y
              have y0 : wL F m ≠ 0 := fun t => y ((nI_le0 (by omega)).mpr t)
              rw [if_neg y0] at ls
              exact h.letter (by omega) (fun τ2 h2 => el (put1 a 43) (if_neg (by omega)).symm τ2 h2) (by omega)
      intro τ h
      exact L 0 (Nat.zero_le _) τ h
    -- the length
    have L0 : ∀ m, m ≤ 4096 → EV Γ MX9_write d 22 [some (.ref (mad 0)), some (.int f), some (.int (nI (wL F m))), some (.int (nI m)), none] [] σ5 (fun oc σ' => ansM (aWrite S f) (mad 0) oc σ' ∧ StepM Γ σ own mad c (aWrite S f).2.2 σ') := by
      refine upto 4096 ?_ (fun m hm ih => ?_)
      · have b4 := wlb 4096 (by omega)
        refine gX9_write_22 ⟨fun _ => ⟨fun y => ⟨R5.2.1.1, fun σ4 e4 => ?_⟩, fun y => ⟨R5.2.1.1, ?_⟩⟩, fun y => absurd ((c4096le (by omega)).mpr (by omega)) y⟩
        · have wl := (nI_leI (b := 1000) (by omega) (by omega)).mp y
          refine main wl σ4 ?_
          rw [e4]; exact MWr.start R5 F5 c5 v5 g5
        · have wl : 1000 < wL F 4096 := by
            rcases Nat.lt_or_ge 1000 (wL F 4096) with t | t
            · exact t
            · exact absurd ((nI_leI (b := 1000) (by omega) (by omega)).mpr t) y
          exact mfail_any (k := 3) R5 F5 c5 v5 (pre.trans (if_pos wl)) (by omega)
      · have wm := wlb m (by omega)
        have p12 := popN_le 12 m
        refine gX9_write_22 ⟨fun y => absurd ((c4096le (by omega)).mp y) (by omega), fun _ => ⟨R5.2.1.1, mad 4, R5.2.1.2.2.2.2.1, mhas_call R5 e hm ?_ (by omega)⟩⟩
        rw [hF]
        cases q : F m
        · have ls : wL F (m + 1) = wL F m := by
            unfold wL
            rw [fold_n q]
          rw [ls] at ih
          rw [nI_1]
          exact ⟨fun _ => ih, fun y => absurd rfl y⟩
        · have ls : wL F (m + 1) = wL F m + (if wL F m = 0 then 0 else 1) + max 1 (popN 12 m) := by
            unfold wL
            rw [fold_y q]
          have e1 : (if nI (popN 12 m) < 1 then (1 : Int32) else nI (popN 12 m)) = nI (max 1 (popN 12 m)) := by
            by_cases y : popN 12 m < 1
            · rw [if_pos (show nI (popN 12 m) < (1 : Int32) from (nI_ltI (b := 1) (by omega) (by omega)).mpr y), show max 1 (popN 12 m) = 1 by omega]; rfl
            · rw [if_neg (show ¬ nI (popN 12 m) < (1 : Int32) from fun t => y ((nI_ltI (b := 1) (by omega) (by omega)).mp t)), show max 1 (popN 12 m) = popN 12 m by omega]
          have s51 : ∀ s : Nat, s = (if wL F m = 0 then 0 else 1) → EV Γ MX9_write d 51 [some (.ref (mad 0)), some (.int f), none, some (.int (nI m)), none] [.int (nI s), .int (nI (wL F m))] σ5 (fun oc σ' => ansM (aWrite S f) (mad 0) oc σ' ∧ StepM Γ σ own mad c (aWrite S f).2.2 σ') := by
            intro s es
            refine gX9_write_51 (CI.of (d2 := 1) (elementsIn_R hm) (by omega) (fun r σ9 _ t => ?_))
            obtain ⟨t1, t2⟩ := t
            subst t1
            rw [t2, e1, nI_add, nI_add, nI_1]
            refine ⟨by omega, ?_⟩
            rw [show wL F m + (s + max 1 (popN 12 m)) = wL F (m + 1) by rw [ls, es, Nat.add_assoc]]
            exact ih
          refine ⟨fun y => absurd y (by decide), fun _ => ⟨fun y => s51 0 ?_, fun y => s51 1 ?_⟩⟩
          · rw [if_pos ((nI_le0 (by omega)).mp y)]
          · rw [if_neg (fun t => y ((nI_le0 (by omega)).mpr t))]
    exact L0 0 (Nat.zero_le _)
  · have hA : aWrite S f = (1, 0, S) := if_pos e
    rw [hA, e]
    rw [e] at g5
    exact ⟨fun z => absurd z (by decide), fun _ => ⟨⟨rfl, g5⟩, st⟩⟩
  · have hA : aWrite S f = (2, 0, S) := (if_neg (by omega)).trans (if_pos e)
    rw [hA, e]
    rw [e] at g5
    exact ⟨fun z => absurd z (by decide), fun _ => ⟨⟨rfl, g5⟩, st⟩⟩
end MWRT
