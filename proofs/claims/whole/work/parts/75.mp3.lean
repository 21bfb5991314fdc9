/-! ROWS of the model's parser: groups, words. -/
theorem MD.ins {σ σ' : AH} {mo pg a o o2 : Nat} {pr : List Nat} (D : MD σ mo pg a pr o) (ne : pg ≠ mo) (e : σ' = setI σ mo 25 (nI o2)) : MD σ' mo pg a pr o2 := by
  obtain ⟨D0, D1, D2, D3, D4⟩ := D
  unfold MD
  rw [e, gi_setI_s, gi_setI_n _ _ _ ne]
  exact ⟨by rw [up_ne _ _ (by decide)]; exact D0, by rw [up_ne _ _ (by decide)]; exact D1, up_same _ _ _, by rw [up_ne _ _ (by decide)]; exact D3, D4⟩
theorem ME.ins {σ σ' : AH} {mo a k e : Nat} {x : Int32} (D : ME σ mo a k e) (h : σ' = setI σ mo 25 x) : ME σ' mo a k e := by
  obtain ⟨D0, D1, D2⟩ := D
  unfold ME
  rw [h, gi_setI_s]
  exact ⟨by rw [up_ne _ _ (by decide)]; exact D0, by rw [up_ne _ _ (by decide)]; exact D1, by rw [up_ne _ _ (by decide)]; exact D2⟩
section MP
variable {Γ : Gm} {mo tx pg ir tl n : Nat} {t : Nat → Int32} {rel : Nat → Bool}
theorem MPost_bad {σ σ1 σ2 : AH} {p o j : Nat} {pr : List Nat} (c : CM mo pg σ σ1) (D : MD σ1 mo pg p pr o) (hp : p ≤ tl) (t2 : tl ≤ 200) (hl : pr.length + j ≤ p) (h : σ2 = setI σ1 mo 26 (nI p)) : MPost mo pg t tl pr o j (.inl p) σ σ2 :=
  ⟨c.trans (CM.set_of (by omega) h), p, pr.length, by omega, hl, by omega, by omega, D.bad h⟩
theorem MN_br {p o : Nat} {R : RS} (ho : o ≤ 20) (H : tkd t tl p = 40 → o < 20 → MN Γ MX9_sum (dS (o + 1)) mo tx pg ir t tl n rel (nxt t tl p) (o + 1) R) (H2 : ∀ x, R = .inr x → x.1 ≤ tl ∧ skp t tl x.1 = x.1) : MN Γ MX9_group (dB o) mo tx pg ir t tl n rel p o (brR t tl p o R) := by
  intro σ pr a j d C D ha hp hs' hl hd
  have tl2 : tl ≤ 200 := C.2.2.2.2.2.2.2.1
  have hb : ∀ i, i < tl → by8 (t i) := C.2.2.2.2.2.2.2.2.2.2.2.2.2
  have dp := dF_pos o
  obtain ⟨ne, ne2⟩ := C.ne
  unfold dB at hd
  refine eX9_group ⟨C.1, CI.of (d2 := 0) (mlook_R C D.1 (by omega)) (by omega) (fun r σ1 _ h1 => ?_)⟩
  obtain ⟨rfl, h1⟩ := h1
  rw [hs'] at h1 ⊢
  have c1 : CM mo pg σ σ1 := CM.set_of (by omega) h1
  have D1 := D.at ne2 h1
  have C1 := C.chg c1
  have no : ¬ (tkd t tl p = 40 ∧ o < 20) → EV Γ MX9_group d 18 [some (.ref mo)] [] σ1 (fun oc σ' => oc = .inl none ∧ MPost mo pg t tl pr o j (brR t tl p o R) σ σ') := by
    intro z
    refine gX9_group_18 ⟨C1.1, CV.of (d2 := 0) (wrong_R C1.1 D1.2.2.2.1) (by omega) (fun σ2 _ h2 => ⟨rfl, ?_⟩)⟩
    rw [D1.1] at h2
    unfold brR; rw [if_neg z]
    exact MPost_bad c1 D1 hp tl2 (by omega) h2
  refine ⟨fun z => no (fun y => z ((lkv_sym hb (by decide)).mpr y.1)), fun z => ⟨C1.1, fun y σ7 e7 σ10 e10 => ?_, fun y => no (fun w => ?_)⟩⟩
  · have z := (lkv_sym hb (by decide)).mp z
    have lt := (tkd_is (by decide) z)
    have et : tnd t tl p = p + 1 := tnd_syb lt.1 (by rw [lt.2]; decide)
    have nx := nxt_gt (t := t) lt.1
    have ek : skp t tl (p + 1) = nxt t tl p := by unfold nxt; rw [et]
    have o20 : o < 20 := by
      rw [D1.2.2.1] at y
      have : o ≠ 20 := fun w => y (by rw [w]; rfl)
      omega
    have du := dF_up o20
    rw [D1.1, nI_1] at e7
    have D7 := D1.at ne2 e7
    rw [D7.2.2.1, nI_1] at e10
    have D10 := D7.ins ne2 e10
    have c10 : CM mo pg σ σ10 := (c1.trans (CM.set_of (by omega) e7)).trans (CM.set_of (by omega) e10)
    refine CV.of (d2 := d - 1) (H z o20 σ10 pr (p + 1) j (d - 1) (C.chg c10) D10 (by omega) nx.2 ek (by omega) (by unfold dS; omega)) (by omega) (fun σ13 _ h13 => ?_)
    obtain ⟨c13, D13⟩ := h13
    have C13 := (C.chg c10).chg c13
    refine ⟨C13.1, ?_⟩
    unfold brR
    rw [if_pos ⟨z, o20⟩]
    cases R with
    | inl e =>
      obtain ⟨b, k, a1, a2, a3, a4, E13⟩ := D13
      refine ⟨fun _ => gX9_group_75 ⟨C13.1, fun σ2 e2 σ5 e5 => ?_⟩, fun w => absurd (by rw [E13.2.2]; exact nI_pos' (by omega)) w⟩
      rw [E13.1, nI_1] at e2
      have E2 := E13.at e2
      have E5 := E2.ins e5
      exact ⟨rfl, (c10.trans c13).trans ((CM.set_of (by omega) e2).trans (CM.set_of (by omega) e5)), b + 1, k, by omega, by omega, by omega, a4, E5⟩
    | inr x =>
      obtain ⟨b, M13, a1, a2, a3⟩ := D13
      obtain ⟨x1, x2⟩ := H2 x rfl
      refine ⟨fun w => absurd w (by rw [M13.2.2.2.1]; decide), fun _ => CI.of (d2 := 0) (mlook_R C13 M13.1 (by omega)) (by omega) (fun r σ17 _ h17 => ?_)⟩
      obtain ⟨rfl, h17⟩ := h17
      rw [a2] at h17 ⊢
      have c17 : CM mo pg σ σ17 := (c10.trans c13).trans (CM.set_of (by omega) h17)
      have M17 := M13.at ne2 h17
      have C17 := C.chg c17
      refine ⟨fun w => ?_, fun w => ⟨C17.1, ?_⟩⟩
      · have w := (lkv_sym hb (by decide)).mp w
        have lt2 := tkd_is (by decide) w
        have et2 : tnd t tl x.1 = x.1 + 1 := tnd_syb lt2.1 (by rw [lt2.2]; decide)
        refine gX9_group_75 ⟨C17.1, fun σ2 e2 σ5 e5 => ?_⟩
        rw [M17.1, nI_1] at e2
        have M2 := M17.at ne2 e2
        rw [M2.2.2.1, nI_pred] at e5
        have M5 := M2.ins ne2 e5
        refine ⟨rfl, c17.trans ((CM.set_of (by omega) e2).trans (CM.set_of (by omega) e5)), ?_⟩
        show match (if tkd t tl x.1 = 41 then (Sum.inr (nxt t tl x.1, x.2) : RS) else .inl x.1) with | .inl e => ∃ a k, a ≤ tl + (20 - o) ∧ k + j ≤ a ∧ k + j ≤ tl ∧ e ≤ 200 ∧ ME σ5 mo a k e | .inr x => ∃ a, MD σ5 mo pg a (pr ++ x.2) o ∧ a ≤ x.1 ∧ skp t tl a = x.1 ∧ (pr ++ x.2).length + j ≤ a
        rw [if_pos w]
        have nx2 := nxt_gt (t := t) lt2.1
        exact ⟨x.1 + 1, M5, by show x.1 + 1 ≤ nxt t tl x.1; omega, by show skp t tl (x.1 + 1) = nxt t tl x.1; unfold nxt; rw [et2], by show (pr ++ x.2).length + j ≤ x.1 + 1; omega⟩
      · have w : tkd t tl x.1 ≠ 41 := fun u => w ((lkv_sym hb (by decide)).mpr u)
        refine CV.of (d2 := 0) (wrong_R C17.1 M17.2.2.2.1) (by omega) (fun σ21 _ h21 => ?_)
        rw [M17.1] at h21
        have E21 := M17.bad h21
        have c21 : CM mo pg σ σ21 := c17.trans (CM.set_of (by omega) h21)
        refine gX9_group_75 ⟨(C.chg c21).1, fun σ2 e2 σ5 e5 => ?_⟩
        rw [E21.1, nI_1] at e2
        have E2 := E21.at e2
        have E5 := E2.ins e5
        refine ⟨rfl, c21.trans ((CM.set_of (by omega) e2).trans (CM.set_of (by omega) e5)), ?_⟩
        show match (if tkd t tl x.1 = 41 then (Sum.inr (nxt t tl x.1, x.2) : RS) else .inl x.1) with | .inl e => ∃ a k, a ≤ tl + (20 - o) ∧ k + j ≤ a ∧ k + j ≤ tl ∧ e ≤ 200 ∧ ME σ5 mo a k e | .inr x => ∃ a, MD σ5 mo pg a (pr ++ x.2) o ∧ a ≤ x.1 ∧ skp t tl a = x.1 ∧ (pr ++ x.2).length + j ≤ a
        rw [if_neg w]
        exact ⟨x.1 + 1, (pr ++ x.2).length, by omega, by omega, by omega, by omega, E5⟩
  · rw [D1.2.2.1] at y
    have := (nI_eq (a := o) (b := 20) (by omega) (by omega)).mp y
    omega
/-- a word: the model stands at its first letter -/
theorem MN_wd {σ : AH} {p o j d : Nat} {pr : List Nat} {R : RS} (C : MRs σ mo tx pg ir t tl n rel) (D : MD σ mo pg p pr o) (hp : p < tl) (hw : isLb (t p) = true) (hl : pr.length + j ≤ p) (ho : o ≤ 20) (hd : dW o ≤ d) (H : MN Γ MX9_group (dB o) mo tx pg ir t tl n rel (nxt t tl p) o R) (H2 : ∀ x, R = .inr x → x.1 ≤ tl) : RV Γ d MX9_word [.ref mo] σ (MPost mo pg t tl pr o j (wdR t tl p R) σ) := by
  have tl2 : tl ≤ 200 := C.2.2.2.2.2.2.2.1
  have hb : ∀ i, i < tl → by8 (t i) := C.2.2.2.2.2.2.2.2.2.2.2.2.2
  have dp := dF_pos o
  obtain ⟨ne, ne2⟩ := C.ne
  obtain ⟨q1, q2⟩ := tnd_gt (t := t) hp
  have nx := nxt_gt (t := t) hp
  have eq := tnd_L hp hw
  have ek : skp t tl (tnd t tl p) = nxt t tl p := rfl
  have qn : tnd t tl p ≤ nxt t tl p := scn_ge _ _ _ _
  unfold dW at hd
  -- behind the letters
  have L184 : ∀ τ (m b s0 : Int32), CM mo pg σ τ → MD τ mo pg (tnd t tl p) pr o → s0 = nI (fnW t p (tnd t tl p)) → ((b = 0 ∧ mkW t (tnd t tl p - p) p 0 = none) ∨ (b = 1 ∧ ∃ k, m = nI k ∧ mkW t (tnd t tl p - p) p 0 = some k)) → EV Γ MX9_word d 184 [some (.ref mo), some (.int (nI p)), some (.int m), some (.int b), none, none] [.int s0] τ (fun oc σ' => oc = .inl none ∧ MPost mo pg t tl pr o j (wdR t tl p R) σ σ') := by
    intro τ m b s0 c M hs0 hmb
    have Ct := C.chg c
    rcases fnW_r t p (tnd t tl p) with h0 | h0
    · refine gX9_word_184 ⟨fun _ => ⟨fun z => ⟨Ct.1, ?_⟩, fun z => ⟨Ct.1, ?_⟩⟩, fun z => absurd (by rw [hs0, h0]; decide) z⟩
      · rcases hmb with ⟨_, hm⟩ | ⟨hb1, _⟩
        · refine CV.of (d2 := 0) (wrong_R Ct.1 M.2.2.2.1) (by omega) (fun σ3 _ h3 => ⟨rfl, ?_⟩)
          unfold wdR; rw [if_pos h0, hm]
          exact ⟨c.trans (CM.set_of (by omega) h3), tnd t tl p, pr.length, by omega, by omega, by omega, by omega, M.bad h3⟩
        · rw [hb1] at z; exact absurd z (by decide)
      · rcases hmb with ⟨hb0, _⟩ | ⟨_, k, hk, hm⟩
        · exact absurd hb0 z
        · refine CV.of (d2 := 0) (madd_R Ct M.2.1 (by omega)) (by omega) (fun σ6 _ h6 => ⟨rfl, ?_⟩)
          unfold wdR; rw [if_pos h0, hm]
          refine ⟨c.trans (CM.add_of ne h6), tnd t tl p, M.add ne rfl (by rw [hk]; exact nI_add 100 k) h6, qn, ek, ?_⟩
          show (pr ++ [100 + k]).length + j ≤ tnd t tl p
          simp only [List.length_append, List.length_singleton]; omega
    · refine gX9_word_184 ⟨fun z => absurd z ?_, fun _ => ⟨Ct.1, ?_⟩⟩
      · rw [hs0]; exact nI_nle (by omega) (by omega)
      · refine CV.of (d2 := d - 1) (H τ pr (tnd t tl p) (j + 1) (d - 1) Ct M qn nx.2 ek (by omega) (by unfold dB; omega)) (by omega) (fun σ9 _ h9 => ?_)
        obtain ⟨c9, D9⟩ := h9
        refine ⟨(Ct.chg c9).1, ?_⟩
        unfold wdR; rw [if_neg (by omega)]
        cases R with
        | inl e =>
          obtain ⟨a, k, a1, a2, a3, a4, E9⟩ := D9
          refine CV.of (d2 := 0) (madd_R (Ct.chg c9) E9.2.1 (by omega)) (by omega) (fun σ12 _ h12 => ⟨rfl, ?_⟩)
          exact ⟨(c.trans c9).trans (CM.add_of ne h12), a, k + 1, a1, by omega, by omega, a4, E9.add ne h12⟩
        | inr x =>
          obtain ⟨a, M9, a1, a2, a3⟩ := D9
          have := H2 x rfl
          refine CV.of (d2 := 0) (madd_R (Ct.chg c9) M9.2.1 (by omega)) (by omega) (fun σ12 _ h12 => ⟨rfl, ?_⟩)
          refine ⟨(c.trans c9).trans (CM.add_of ne h12), a, ?_, a1, a2, ?_⟩
          · have := M9.add ne rfl hs0 h12
            rw [List.append_assoc] at this; exact this
          · show (pr ++ (x.2 ++ [fnW t p (tnd t tl p)])).length + j ≤ a
            rw [List.length_append] at a3
            simp only [List.length_append, List.length_singleton]; omega
  have L103 : ∀ τ (m b : Int32), CM mo pg σ τ → MD τ mo pg (tnd t tl p) pr o → ((b = 0 ∧ mkW t (tnd t tl p - p) p 0 = none) ∨ (b = 1 ∧ ∃ k, m = nI k ∧ mkW t (tnd t tl p - p) p 0 = some k)) → EV Γ MX9_word d 103 [some (.ref mo), some (.int (nI p)), some (.int m), some (.int b), none, none] [] τ (fun oc σ' => oc = .inl none ∧ MPost mo pg t tl pr o j (wdR t tl p R) σ σ') := by
    intro τ m b c M hmb
    have Ct := C.chg c
    have iw : ∀ x y z : Int32, RI Γ 0 MX9_isWord [.ref mo, .int (nI p), .int x, .int y, .int z] τ (fun r σ' => σ' = τ ∧ r = b2i (w3 t p (tnd t tl p) x y z)) := fun x y z => misW_R Ct M.1 (by omega) q2
    refine gX9_word_103 ⟨Ct.1, CI.of (d2 := 0) (iw _ _ _) (by omega) (fun r σ1 _ h1 => ?_)⟩
    obtain ⟨e1, rfl⟩ := h1
    subst e1
    refine ⟨Ct.1, CI.of (d2 := 0) (iw _ _ _) (by omega) (fun r σ2 _ h2 => ?_)⟩
    obtain ⟨e2, rfl⟩ := h2
    subst e2
    refine ⟨fun z1 => ⟨Ct.1, CI.of (d2 := 0) (iw _ _ _) (by omega) (fun r σ3 _ h3 => ?_)⟩, fun z1 => L184 _ m b _ c M ?_ hmb⟩
    · have y1 := (b2i_0 _).mp z1
      obtain ⟨e3, rfl⟩ := h3
      subst e3
      refine ⟨fun z2 => ⟨fun z3 => ⟨Ct.1, CI.of (d2 := 0) (iw _ _ _) (by omega) (fun r σ4 _ h4 => ?_)⟩, fun z3 => L184 _ m b _ c M ?_ hmb⟩, fun z2 => L184 _ m b _ c M ?_ hmb⟩
      · have y2 := (b2i_0 _).mp z2
        have y3 := (b2i_0 _).mp z3
        obtain ⟨e4, rfl⟩ := h4
        subst e4
        refine ⟨fun z4 => L184 _ m b _ c M ?_ hmb, fun z4 => L184 _ m b _ c M ?_ hmb⟩
        · have y4 := (b2i_0 _).mp z4
          unfold fnW; rw [y1, y2, y3, y4]; rfl
        · have y4 := (b2i_ne0 _).mp z4
          unfold fnW; rw [y1, y2, y3, y4]; rfl
      · have y2 := (b2i_0 _).mp z2
        have y3 := (b2i_ne0 _).mp z3
        unfold fnW; rw [y1, y2, y3]; rfl
      · have y2 := (b2i_ne0 _).mp z2
        unfold fnW; rw [y1, y2]; rfl
    · have y1 := (b2i_ne0 _).mp z1
      unfold fnW; rw [y1]; rfl
  have L : ∀ m i (k b : Int32) τ, i + m = tnd t tl p → p ≤ i → CM mo pg σ τ → MD τ mo pg i pr o → ((b = 0 ∧ mkW t (tnd t tl p - p) p 0 = none) ∨ (b = 1 ∧ ∃ k', k = nI k' ∧ k' < 4096 ∧ mkW t m i k' = mkW t (tnd t tl p - p) p 0)) → EV Γ MX9_word d 9 [some (.ref mo), some (.int (nI p)), some (.int k), some (.int b), none, none] [] τ (fun oc σ' => oc = .inl none ∧ MPost mo pg t tl pr o j (wdR t tl p R) σ σ') := by
    intro m
    induction m with
    | zero =>
      intro i k b τ hi hpi c M hkb
      have Ct := C.chg c
      have hi : i = tnd t tl p := hi
      subst hi
      have fin := L103 τ k b c M (hkb.elim Or.inl (fun ⟨h1, k', h2, h3, h4⟩ => Or.inr ⟨h1, k', h2, h4.symm⟩))
      rcases Nat.lt_or_ge (tnd t tl p) tl with lt | ge
      · refine gX9_word_9 ⟨Ct.1, fun _ => fin, fun z => ⟨tx, Ct.2.1, 200, Ct.2.2.2.2.1, tnd t tl p, by rw [M.1]; exact IXn (by omega) (by omega), ?_⟩⟩
        rw [Ct.2.2.2.2.2.2.2.2.2.2.2.1 _ lt]
        refine CI.of (d2 := 0) misL_R (by omega) (fun r σ9 _ h9 => ?_)
        obtain ⟨rfl, rfl⟩ := h9
        refine ⟨fun _ => fin, fun y => ?_⟩
        have y := (b2i_ne0 _).mp y
        have := scn_stop (f := isLb) (t := t) (tl := tl) (p := p) (by omega) (by rw [← eq]; exact lt)
        rw [← eq, y] at this
        exact absurd this (by decide)
      · exact gX9_word_9 ⟨Ct.1, fun _ => fin, fun z => absurd (by rw [Ct.2.2.2.2.2.2.2.2.2.1, M.1]; exact nI_le ge (by omega)) z⟩
    | succ m ih =>
      intro i k b τ hi hpi c M hkb
      have Ct := C.chg c
      have lt : i < tl := by omega
      have isl : isLb (t i) = true := scn_in (f := isLb) (t := t) (tl := tl) hpi (by rw [← eq]; omega)
      obtain ⟨C0, C1, C2, C3, C4, C5, C6, C7, C8, C9, C10, C11, C12, C13⟩ := Ct
      refine gX9_word_9 ⟨C0, fun z => absurd (by rw [C9, M.1] at z; exact (nI_leI (by omega) (by omega)).mp z) (by omega), fun _ => ⟨tx, C1, 200, C4, i, by rw [M.1]; exact IXn (by omega) (by omega), ?_⟩⟩
      rw [C11 i lt]
      refine CI.of (d2 := 0) misL_R (by omega) (fun r σ9 _ h9 => ?_)
      obtain ⟨e9, rfl⟩ := h9
      subst e9
      refine ⟨fun z => absurd ((b2i_0 _).mp z) (by rw [isl]; decide), fun _ => ⟨C0, tx, C1, 200, C4, i, by rw [M.1]; exact IXn (by omega) (by omega), ?_⟩⟩
      rw [C11 i lt]
      obtain ⟨u, hu, eu⟩ := lb_of isl
      have e97 : t i - 97 = nI u := by rw [eu]; exact (pk_sub (a := 97 + u) (b := 97) (by omega)).trans (by congr 1; omega)
      -- on with the next letter
      have go88 : ∀ (x y s0 : Int32), ((s0 = 0 ∧ mkW t (tnd t tl p - p) p 0 = none) ∨ (s0 = 1 ∧ ∃ k', y ||| x = nI k' ∧ k' < 4096 ∧ mkW t m (i + 1) k' = mkW t (tnd t tl p - p) p 0)) → EV Γ MX9_word d 88 [some (.ref mo), some (.int (nI p)), none, some (.int s0), none, none] [.int x, .int y] σ9 (fun oc σ' => oc = .inl none ∧ MPost mo pg t tl pr o j (wdR t tl p R) σ σ') := by
        intro x y s0 hh
        refine gX9_word_88 ⟨C0, fun σ2 e2 => ?_⟩
        rw [M.1, nI_1] at e2
        exact ih (i + 1) (y ||| x) s0 σ2 (by omega) (by omega) (c.trans (CM.set_of (by omega) e2)) (M.at ne2 e2) hh
      have none0 : mkW t (tnd t tl p - p) p 0 = none → ∀ v4 : Int32, EV Γ MX9_word d 74 [some (.ref mo), some (.int (nI p)), some (.int k), none, some (.int v4), none] [.int 0] σ9 (fun oc σ' => oc = .inl none ∧ MPost mo pg t tl pr o j (wdR t tl p R) σ σ') := fun h v4 =>
        gX9_word_74 ⟨fun _ => go88 _ _ _ (Or.inl ⟨rfl, h⟩), fun z => absurd rfl z⟩
      rw [e97]
      rcases hkb with ⟨b0, hm⟩ | ⟨b1, k', rfl, hk', hm⟩
      · exact ⟨fun _ => none0 hm _, fun z => absurd b0 z⟩
      · have hm2 : mkW t (m + 1) i k' = if (t i - 97).toBitVec.toNat < 12 ∧ k'.testBit (t i - 97).toBitVec.toNat = false then mkW t m (i + 1) (k' + 2 ^ (t i - 97).toBitVec.toNat) else none := rfl
        rw [e97, pk_tn (by omega), hm] at hm2
        refine ⟨fun z => absurd (b1.symm.trans z) (by decide), fun _ => ⟨fun z => none0 ?_ _, fun z => ?_⟩⟩
        · have z := (c12le (by omega)).mp z
          rw [hm2, if_neg (by omega)]
        · have u12 : u < 12 := by
            rcases Nat.lt_or_ge u 12 with w | w
            · exact w
            · exact absurd ((c12le (by omega)).mpr w) z
          rw [n_bit (by omega) (by omega)]
          refine ⟨fun y => none0 ?_ _, fun y => ?_⟩
          · rw [hm2, if_neg (by rw [(b2i_ne0 _).mp y]; simp)]
          · have y := (b2i_0 _).mp y
            rw [if_pos ⟨u12, y⟩] at hm2
            refine gX9_word_74 ⟨fun z => absurd z (by decide), fun _ => go88 _ _ _ (Or.inr ⟨rfl, k' + 2 ^ u, ?_, add_lt hk' u12 y, hm2.symm⟩)⟩
            rw [el_bit u u12, fa_or, or_add y]
  refine eX9_word ⟨C.1, ?_⟩
  rw [D.1]
  exact L (tnd t tl p - p) p 0 1 σ (by omega) (Nat.le_refl _) (CM.refl _ _ _) D (Or.inr ⟨rfl, 0, rfl, by omega, rfl⟩)
end MP
