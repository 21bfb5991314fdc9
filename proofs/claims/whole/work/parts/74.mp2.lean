/-! ROWS of the model's parser: products and sums. -/
def MPost (mo pg : Nat) (t : Nat → Int32) (tl : Nat) (pr : List Nat) (o j : Nat) (R : RS) (σ σ' : AH) : Prop := CM mo pg σ σ' ∧ match R with
  | .inl e => ∃ a k, a ≤ tl + (20 - o) ∧ k + j ≤ a ∧ k + j ≤ tl ∧ e ≤ 200 ∧ ME σ' mo a k e
  | .inr x => ∃ a, MD σ' mo pg a (pr ++ x.2) o ∧ a ≤ x.1 ∧ skp t tl a = x.1 ∧ (pr ++ x.2).length + j ≤ a
def MN (Γ : Gm) (M : MI) (D mo tx pg ir : Nat) (t : Nat → Int32) (tl n : Nat) (rel : Nat → Bool) (p o : Nat) (R : RS) : Prop := ∀ (σ : AH) (pr : List Nat) (a j d : Nat), MRs σ mo tx pg ir t tl n rel → MD σ mo pg a pr o → a ≤ p → p ≤ tl → skp t tl a = p → pr.length + j ≤ a → D ≤ d → RV Γ d M [.ref mo] σ (MPost mo pg t tl pr o j R σ)
def MLp (Γ : Gm) (M : MI) (D mo tx pg ir : Nat) (t : Nat → Int32) (tl n : Nat) (rel : Nat → Bool) (p o : Nat) (R : RS) : Prop := ∀ (σ : AH) (pr : List Nat) (j d : Nat), MRs σ mo tx pg ir t tl n rel → MD σ mo pg p pr o → p ≤ tl → skp t tl p = p → pr.length + j ≤ p → D ≤ d → EV Γ M d 9 [some (.ref mo), some (.int (lkv t tl p))] [] σ (fun oc σ' => oc = .inl none ∧ MPost mo pg t tl pr o j R σ σ')
theorem MD.add {σ σ' : AH} {mo pg a o s k : Nat} {v : Int32} {pr : List Nat} (D : MD σ mo pg a pr o) (ne : mo ≠ pg) (hk : k = pr.length) (hs' : v = nI s) (e : σ' = setI (setI σ pg k v) mo 23 (nI (k + 1))) : MD σ' mo pg a (pr ++ [s]) o := by
  obtain ⟨D0, D1, D2, D3, D4⟩ := D
  have g : gi σ' mo = up (gi σ mo) 23 (nI (k + 1)) := by rw [e, gi_setI_s, gi_setI_n _ _ _ ne]
  have g2 : gi σ' pg = up (gi σ pg) k v := by rw [e, gi_setI_n _ _ _ (Ne.symm ne), gi_setI_s]
  unfold MD
  rw [g, g2]
  refine ⟨by rw [up_ne _ _ (by decide)]; exact D0, by rw [up_same, hk, List.length_append]; rfl, by rw [up_ne _ _ (by decide)]; exact D2, by rw [up_ne _ _ (by decide)]; exact D3, fun j x hj => ?_⟩
  rcases list_snoc hj with ⟨c, q⟩ | ⟨c, q⟩
  · rw [up_ne _ _ (by omega)]; exact D4 j x q
  · rw [c, ← hk, up_same, q]; exact hs'
theorem MD.at {σ σ' : AH} {mo pg a b o : Nat} {pr : List Nat} (D : MD σ mo pg a pr o) (ne : pg ≠ mo) (e : σ' = setI σ mo 24 (nI b)) : MD σ' mo pg b pr o := by
  obtain ⟨D0, D1, D2, D3, D4⟩ := D
  unfold MD
  rw [e, gi_setI_s, gi_setI_n _ _ _ ne]
  exact ⟨up_same _ _ _, by rw [up_ne _ _ (by decide)]; exact D1, by rw [up_ne _ _ (by decide)]; exact D2, by rw [up_ne _ _ (by decide)]; exact D3, D4⟩
theorem MD.bad {σ σ' : AH} {mo pg a o e : Nat} {pr : List Nat} (D : MD σ mo pg a pr o) (h : σ' = setI σ mo 26 (nI e)) : ME σ' mo a pr.length e := by
  obtain ⟨D0, D1, D2, D3, D4⟩ := D
  unfold ME
  rw [h, gi_setI_s]
  exact ⟨by rw [up_ne _ _ (by decide)]; exact D0, by rw [up_ne _ _ (by decide)]; exact D1, up_same _ _ _⟩
theorem ME.add {σ σ' : AH} {mo pg a k e : Nat} {v : Int32} (D : ME σ mo a k e) (ne : mo ≠ pg) (h : σ' = setI (setI σ pg k v) mo 23 (nI (k + 1))) : ME σ' mo a (k + 1) e := by
  obtain ⟨D0, D1, D2⟩ := D
  have g : gi σ' mo = up (gi σ mo) 23 (nI (k + 1)) := by rw [h, gi_setI_s, gi_setI_n _ _ _ ne]
  unfold ME
  rw [g]
  exact ⟨by rw [up_ne _ _ (by decide)]; exact D0, up_same _ _ _, by rw [up_ne _ _ (by decide)]; exact D2⟩
theorem ME.at {σ σ' : AH} {mo a b k e : Nat} (D : ME σ mo a k e) (h : σ' = setI σ mo 24 (nI b)) : ME σ' mo b k e := by
  obtain ⟨D0, D1, D2⟩ := D
  unfold ME
  rw [h, gi_setI_s]
  exact ⟨up_same _ _ _, by rw [up_ne _ _ (by decide)]; exact D1, by rw [up_ne _ _ (by decide)]; exact D2⟩
theorem CM.add_of {σ σ' : AH} {mo pg k : Nat} {v w : Int32} (ne : mo ≠ pg) (h : σ' = setI (setI σ pg k v) mo 23 w) : CM mo pg σ σ' := by
  rw [h]; exact (CM.pgm σ k v ne).trans (CM.set _ _ (by omega))
theorem CM.set_of {σ σ' : AH} {mo pg j : Nat} {x : Int32} (hj : 23 ≤ j) (h : σ' = setI σ mo j x) : CM mo pg σ σ' := by rw [h]; exact CM.set σ x hj
theorem skp_b {t : Nat → Int32} {tl a b : Nat} (h : a ≤ tl + b) : a ≤ skp t tl a ∧ skp t tl a ≤ tl + b := by
  refine ⟨scn_ge _ _ _ _, ?_⟩
  rcases Nat.lt_or_ge tl a with c | c
  · have : skp t tl a = a := scn_end (by omega)
    omega
  · have : skp t tl a ≤ tl := scn_le c
    omega
theorem sy_Sum {x : Int32} (h : isSumb x = true) : isSyb x = true := by unfold isSyb; rw [h]; rfl
theorem sy_Product {x : Int32} (h : isPrb x = true) : isSyb x = true := by unfold isSyb; rw [h, Bool.true_or, Bool.or_true]
theorem MPost_pre {mo pg tl o j : Nat} {t : Nat → Int32} {pr a : List Nat} {R : RS} {σ σ1 σ' : AH} (h : CM mo pg σ σ1) (k : MPost mo pg t tl (pr ++ a) o j R σ1 σ') : MPost mo pg t tl pr o j (preR a R) σ σ' := by
  obtain ⟨k1, k2⟩ := k
  refine ⟨h.trans k1, ?_⟩
  cases R with
  | inl e => exact k2
  | inr x =>
    show ∃ b, MD σ' mo pg b (pr ++ (a ++ x.2)) o ∧ b ≤ x.1 ∧ skp t tl b = x.1 ∧ (pr ++ (a ++ x.2)).length + j ≤ b
    rw [← List.append_assoc]; exact k2
section MP
variable {Γ : Gm} {mo tx pg ir tl n : Nat} {t : Nat → Int32} {rel : Nat → Bool}

theorem three_product {x : Int32} (h : isPrb x = true) : x = 42 ∨ x = 47 ∨ x = 37 := by
  unfold isPrb at h
  simp only [Bool.or_eq_true, decide_eq_true_iff] at h
  exact h
theorem ML_end_product {p o : Nat} (h : isPrb (tkd t tl p) = false) : MLp Γ MX9_product (dPr o) mo tx pg ir t tl n rel p o (.inr (p, [])) := by
  intro σ pr j d C D hp hs' hl hd
  have hb : ∀ i, i < tl → by8 (t i) := C.2.2.2.2.2.2.2.2.2.2.2.2.2
  have no : ∀ y, isPrb y = true → lkv t tl p ≠ y := fun y hy e => by
    rw [(lkv_sym hb (sy_Product hy)).mp e, hy] at h
    exact absurd h (by decide)
  refine gX9_product_9 ⟨C.1, fun z => absurd z (by rw [D.2.2.2.1]; decide), fun _ => ⟨fun z => absurd z (no _ (by decide)), fun _ => ⟨fun z => absurd z (no _ (by decide)), fun _ => ⟨fun _ => ⟨rfl, CM.refl _ _ _, p, ?_, Nat.le_refl _, hs', ?_⟩, fun z => absurd z (no _ (by decide))⟩⟩⟩⟩
  · rw [List.append_nil]; exact D
  · rw [List.append_nil]; exact hl
theorem ML_go_product {p o : Nat} {R2 R3 : RS} (h : isPrb (tkd t tl p) = true) (H : MN Γ MX9_factor (dF o) mo tx pg ir t tl n rel (nxt t tl p) o R2) (H2 : ∀ x, R2 = .inr x → x.1 ≤ tl ∧ skp t tl x.1 = x.1 ∧ MLp Γ MX9_product (dPr o) mo tx pg ir t tl n rel x.1 o R3) : MLp Γ MX9_product (dPr o) mo tx pg ir t tl n rel p o (andR R2 (fun x => preR (x.2 ++ [opc (tkd t tl p)]) R3)) := by
  intro σ pr j d C D hp hs' hl hd
  have tl2 : tl ≤ 200 := C.2.2.2.2.2.2.2.1
  have hb : ∀ i, i < tl → by8 (t i) := C.2.2.2.2.2.2.2.2.2.2.2.2.2
  have sy := sy_Product h
  have lt := (tkd_is sy rfl).1
  have et : tnd t tl p = p + 1 := tnd_syb lt (by rw [(tkd_is sy rfl).2]; exact sy)
  have nx := nxt_gt (t := t) lt
  have ek : skp t tl (p + 1) = nxt t tl p := by unfold nxt; rw [et]
  have lx := (lkv_sym hb sy).mpr rfl
  have dp := dF_pos o
  have three := three_product h
  generalize tkd t tl p = x at h sy lx three ⊢
  obtain ⟨ne, ne2⟩ := C.ne
  unfold dPr at hd
  have h34 : EV Γ MX9_product d 34 [some (.ref mo), some (.int (lkv t tl p))] [] σ (fun oc σ' => oc = .inl none ∧ MPost mo pg t tl pr o j (andR R2 (fun y => preR (y.2 ++ [opc x]) R3)) σ σ') := by
    refine gX9_product_34 ⟨C.1, fun σ2 e2 => ?_⟩
    rw [D.1, nI_1] at e2
    have c2 : CM mo pg σ σ2 := CM.set_of (by omega) e2
    refine CV.of (d2 := d - 1) (H σ2 pr (p + 1) (j + 1) (d - 1) (C.chg c2) (D.at ne2 e2) (by omega) nx.2 ek (by omega) (by omega)) (by omega) (fun σ5 _ h5 => ?_)
    obtain ⟨c5, D5⟩ := h5
    have C5 := (C.chg c2).chg c5
    have h71 : ∀ v, v = nI (opc x) → EV Γ MX9_product d 71 [some (.ref mo), none] [.int v, .ref mo] σ5 (fun oc σ' => oc = .inl none ∧ MPost mo pg t tl pr o j (andR R2 (fun y => preR (y.2 ++ [opc x]) R3)) σ σ') := by
      intro v hv'
      refine gX9_product_71 ⟨C5.1, ?_⟩
      cases R2 with
      | inl e =>
        obtain ⟨a, k, a1, a2, a3, a4, E5⟩ := D5
        refine CV.of (d2 := 0) (madd_R C5 E5.2.1 (by omega)) (by omega) (fun σ6 _ h6 => ?_)
        have c6 : CM mo pg σ5 σ6 := CM.add_of ne h6
        have E6 := E5.add ne h6
        have sb := skp_b (t := t) a1
        refine ⟨(C5.chg c6).1, CI.of (d2 := 0) (mlook_R (C5.chg c6) E6.1 (by omega)) (by omega) (fun r σ7 _ h7 => ?_)⟩
        have c7 : CM mo pg σ6 σ7 := CM.set_of (by omega) h7.2
        have E7 := E6.at h7.2
        refine gX9_product_9 ⟨((C5.chg c6).chg c7).1, fun _ => ⟨rfl, ((c2.trans c5).trans c6).trans c7, _, k + 1, sb.2, by omega, by omega, a4, E7⟩, fun z => absurd (by rw [E7.2.2]; exact nI_pos' (by omega)) z⟩
      | inr y =>
        obtain ⟨a, M5, a1, a2, a3⟩ := D5
        obtain ⟨y1, y2, H3⟩ := H2 y rfl
        refine CV.of (d2 := 0) (madd_R C5 M5.2.1 (by omega)) (by omega) (fun σ6 _ h6 => ?_)
        have c6 : CM mo pg σ5 σ6 := CM.add_of ne h6
        have M6 := M5.add ne rfl hv' h6
        refine ⟨(C5.chg c6).1, CI.of (d2 := 0) (mlook_R (C5.chg c6) M6.1 (by omega)) (by omega) (fun r σ7 _ h7 => ?_)⟩
        have c7 : CM mo pg σ6 σ7 := CM.set_of (by omega) h7.2
        have M7 := M6.at ne2 h7.2
        rw [h7.1, a2]
        rw [a2, List.append_assoc] at M7
        rw [List.length_append] at a3
        refine (H3 σ7 _ j d ((C5.chg c6).chg c7) M7 y1 y2 (by simp only [List.length_append, List.length_singleton]; omega) (by unfold dPr; omega)).post (fun oc σ' q => ⟨q.1, ?_⟩)
        exact MPost_pre (((c2.trans c5).trans c6).trans c7) q.2
    rw [lx]
    refine ⟨fun n1 => ⟨fun n2 => h71 _ ?_, fun n2 => h71 _ ?_⟩, fun n1 => h71 _ ?_⟩
    · rcases three with q | q | q
      · exact absurd q n1
      · exact absurd q n2
      · rw [q]; decide
    · rw [n2]; decide
    · rw [n1]; decide
  refine gX9_product_9 ⟨C.1, fun z => absurd z (by rw [D.2.2.2.1]; decide), fun _ => ⟨fun _ => h34, fun n1 => ⟨fun _ => h34, fun n2 => ⟨fun n3 => ?_, fun _ => h34⟩⟩⟩⟩
  rw [lx] at n1 n2 n3
  rcases three with q | q | q
  · exact absurd q n1
  · exact absurd q n2
  · exact absurd q n3
theorem MN_product {p o : Nat} {R1 R2 : RS} (H : MN Γ MX9_factor (dF o) mo tx pg ir t tl n rel p o R1) (H2 : ∀ x, R1 = .inr x → x.1 ≤ tl ∧ skp t tl x.1 = x.1 ∧ MLp Γ MX9_product (dPr o) mo tx pg ir t tl n rel x.1 o R2) : MN Γ MX9_product (dPr o) mo tx pg ir t tl n rel p o (andR R1 (fun x => preR x.2 R2)) := by
  intro σ pr a j d C D ha hp hs' hl hd
  have tl2 : tl ≤ 200 := C.2.2.2.2.2.2.2.1
  have dp := dF_pos o
  obtain ⟨ne, ne2⟩ := C.ne
  unfold dPr at hd
  refine eX9_product ⟨C.1, CV.of (d2 := d - 1) (H σ pr a j (d - 1) C D ha hp hs' hl (by omega)) (by omega) (fun σ1 _ h1 => ?_)⟩
  obtain ⟨c1, D1⟩ := h1
  have C1 := C.chg c1
  refine ⟨C1.1, ?_⟩
  cases R1 with
  | inl e =>
    obtain ⟨a', k, a1, a2, a3, a4, E1⟩ := D1
    have sb := skp_b (t := t) a1
    refine CI.of (d2 := 0) (mlook_R C1 E1.1 (by omega)) (by omega) (fun r σ7 _ h7 => ?_)
    have c7 : CM mo pg σ1 σ7 := CM.set_of (by omega) h7.2
    have E7 := E1.at h7.2
    refine gX9_product_9 ⟨(C1.chg c7).1, fun _ => ⟨rfl, c1.trans c7, _, k, sb.2, by omega, by omega, a4, E7⟩, fun z => absurd (by rw [E7.2.2]; exact nI_pos' (by omega)) z⟩
  | inr y =>
    obtain ⟨b, M1, a1, a2, a3⟩ := D1
    obtain ⟨y1, y2, H3⟩ := H2 y rfl
    refine CI.of (d2 := 0) (mlook_R C1 M1.1 (by omega)) (by omega) (fun r σ7 _ h7 => ?_)
    have c7 : CM mo pg σ1 σ7 := CM.set_of (by omega) h7.2
    have M7 := M1.at ne2 h7.2
    rw [h7.1, a2]
    rw [a2] at M7
    refine (H3 σ7 _ j d (C1.chg c7) M7 y1 y2 (by omega) (by unfold dPr; omega)).post (fun oc σ' q => ⟨q.1, ?_⟩)
    exact MPost_pre (c1.trans c7) q.2

theorem three_sum {x : Int32} (h : isSumb x = true) : x = 43 ∨ x = 45 ∨ x = 38 := by
  unfold isSumb at h
  simp only [Bool.or_eq_true, decide_eq_true_iff] at h
  exact h
theorem ML_end_sum {p o : Nat} (h : isSumb (tkd t tl p) = false) : MLp Γ MX9_sum (dS o) mo tx pg ir t tl n rel p o (.inr (p, [])) := by
  intro σ pr j d C D hp hs' hl hd
  have hb : ∀ i, i < tl → by8 (t i) := C.2.2.2.2.2.2.2.2.2.2.2.2.2
  have no : ∀ y, isSumb y = true → lkv t tl p ≠ y := fun y hy e => by
    rw [(lkv_sym hb (sy_Sum hy)).mp e, hy] at h
    exact absurd h (by decide)
  refine gX9_sum_9 ⟨C.1, fun z => absurd z (by rw [D.2.2.2.1]; decide), fun _ => ⟨fun z => absurd z (no _ (by decide)), fun _ => ⟨fun z => absurd z (no _ (by decide)), fun _ => ⟨fun _ => ⟨rfl, CM.refl _ _ _, p, ?_, Nat.le_refl _, hs', ?_⟩, fun z => absurd z (no _ (by decide))⟩⟩⟩⟩
  · rw [List.append_nil]; exact D
  · rw [List.append_nil]; exact hl
theorem ML_go_sum {p o : Nat} {R2 R3 : RS} (h : isSumb (tkd t tl p) = true) (H : MN Γ MX9_product (dPr o) mo tx pg ir t tl n rel (nxt t tl p) o R2) (H2 : ∀ x, R2 = .inr x → x.1 ≤ tl ∧ skp t tl x.1 = x.1 ∧ MLp Γ MX9_sum (dS o) mo tx pg ir t tl n rel x.1 o R3) : MLp Γ MX9_sum (dS o) mo tx pg ir t tl n rel p o (andR R2 (fun x => preR (x.2 ++ [opc (tkd t tl p)]) R3)) := by
  intro σ pr j d C D hp hs' hl hd
  have tl2 : tl ≤ 200 := C.2.2.2.2.2.2.2.1
  have hb : ∀ i, i < tl → by8 (t i) := C.2.2.2.2.2.2.2.2.2.2.2.2.2
  have sy := sy_Sum h
  have lt := (tkd_is sy rfl).1
  have et : tnd t tl p = p + 1 := tnd_syb lt (by rw [(tkd_is sy rfl).2]; exact sy)
  have nx := nxt_gt (t := t) lt
  have ek : skp t tl (p + 1) = nxt t tl p := by unfold nxt; rw [et]
  have lx := (lkv_sym hb sy).mpr rfl
  have dp := dF_pos o
  have three := three_sum h
  generalize tkd t tl p = x at h sy lx three ⊢
  obtain ⟨ne, ne2⟩ := C.ne
  unfold dS at hd
  have h34 : EV Γ MX9_sum d 34 [some (.ref mo), some (.int (lkv t tl p))] [] σ (fun oc σ' => oc = .inl none ∧ MPost mo pg t tl pr o j (andR R2 (fun y => preR (y.2 ++ [opc x]) R3)) σ σ') := by
    refine gX9_sum_34 ⟨C.1, fun σ2 e2 => ?_⟩
    rw [D.1, nI_1] at e2
    have c2 : CM mo pg σ σ2 := CM.set_of (by omega) e2
    refine CV.of (d2 := d - 1) (H σ2 pr (p + 1) (j + 1) (d - 1) (C.chg c2) (D.at ne2 e2) (by omega) nx.2 ek (by omega) (by unfold dPr; omega)) (by omega) (fun σ5 _ h5 => ?_)
    obtain ⟨c5, D5⟩ := h5
    have C5 := (C.chg c2).chg c5
    have h70 : ∀ v, v = nI (opc x) → EV Γ MX9_sum d 70 [some (.ref mo), none] [.int v, .ref mo] σ5 (fun oc σ' => oc = .inl none ∧ MPost mo pg t tl pr o j (andR R2 (fun y => preR (y.2 ++ [opc x]) R3)) σ σ') := by
      intro v hv'
      refine gX9_sum_70 ⟨C5.1, ?_⟩
      cases R2 with
      | inl e =>
        obtain ⟨a, k, a1, a2, a3, a4, E5⟩ := D5
        refine CV.of (d2 := 0) (madd_R C5 E5.2.1 (by omega)) (by omega) (fun σ6 _ h6 => ?_)
        have c6 : CM mo pg σ5 σ6 := CM.add_of ne h6
        have E6 := E5.add ne h6
        have sb := skp_b (t := t) a1
        refine ⟨(C5.chg c6).1, CI.of (d2 := 0) (mlook_R (C5.chg c6) E6.1 (by omega)) (by omega) (fun r σ7 _ h7 => ?_)⟩
        have c7 : CM mo pg σ6 σ7 := CM.set_of (by omega) h7.2
        have E7 := E6.at h7.2
        refine gX9_sum_9 ⟨((C5.chg c6).chg c7).1, fun _ => ⟨rfl, ((c2.trans c5).trans c6).trans c7, _, k + 1, sb.2, by omega, by omega, a4, E7⟩, fun z => absurd (by rw [E7.2.2]; exact nI_pos' (by omega)) z⟩
      | inr y =>
        obtain ⟨a, M5, a1, a2, a3⟩ := D5
        obtain ⟨y1, y2, H3⟩ := H2 y rfl
        refine CV.of (d2 := 0) (madd_R C5 M5.2.1 (by omega)) (by omega) (fun σ6 _ h6 => ?_)
        have c6 : CM mo pg σ5 σ6 := CM.add_of ne h6
        have M6 := M5.add ne rfl hv' h6
        refine ⟨(C5.chg c6).1, CI.of (d2 := 0) (mlook_R (C5.chg c6) M6.1 (by omega)) (by omega) (fun r σ7 _ h7 => ?_)⟩
        have c7 : CM mo pg σ6 σ7 := CM.set_of (by omega) h7.2
        have M7 := M6.at ne2 h7.2
        rw [h7.1, a2]
        rw [a2, List.append_assoc] at M7
        rw [List.length_append] at a3
        refine (H3 σ7 _ j d ((C5.chg c6).chg c7) M7 y1 y2 (by simp only [List.length_append, List.length_singleton]; omega) (by unfold dS; omega)).post (fun oc σ' q => ⟨q.1, ?_⟩)
        exact MPost_pre (((c2.trans c5).trans c6).trans c7) q.2
    rw [lx]
    refine ⟨fun n1 => ⟨fun n2 => h70 _ ?_, fun n2 => h70 _ ?_⟩, fun n1 => h70 _ ?_⟩
    · rcases three with q | q | q
      · exact absurd q n1
      · exact absurd q n2
      · rw [q]; decide
    · rw [n2]; decide
    · rw [n1]; decide
  refine gX9_sum_9 ⟨C.1, fun z => absurd z (by rw [D.2.2.2.1]; decide), fun _ => ⟨fun _ => h34, fun n1 => ⟨fun _ => h34, fun n2 => ⟨fun n3 => ?_, fun _ => h34⟩⟩⟩⟩
  rw [lx] at n1 n2 n3
  rcases three with q | q | q
  · exact absurd q n1
  · exact absurd q n2
  · exact absurd q n3
theorem MN_sum {p o : Nat} {R1 R2 : RS} (H : MN Γ MX9_product (dPr o) mo tx pg ir t tl n rel p o R1) (H2 : ∀ x, R1 = .inr x → x.1 ≤ tl ∧ skp t tl x.1 = x.1 ∧ MLp Γ MX9_sum (dS o) mo tx pg ir t tl n rel x.1 o R2) : MN Γ MX9_sum (dS o) mo tx pg ir t tl n rel p o (andR R1 (fun x => preR x.2 R2)) := by
  intro σ pr a j d C D ha hp hs' hl hd
  have tl2 : tl ≤ 200 := C.2.2.2.2.2.2.2.1
  have dp := dF_pos o
  obtain ⟨ne, ne2⟩ := C.ne
  unfold dS at hd
  refine eX9_sum ⟨C.1, CV.of (d2 := d - 1) (H σ pr a j (d - 1) C D ha hp hs' hl (by unfold dPr; omega)) (by omega) (fun σ1 _ h1 => ?_)⟩
  obtain ⟨c1, D1⟩ := h1
  have C1 := C.chg c1
  refine ⟨C1.1, ?_⟩
  cases R1 with
  | inl e =>
    obtain ⟨a', k, a1, a2, a3, a4, E1⟩ := D1
    have sb := skp_b (t := t) a1
    refine CI.of (d2 := 0) (mlook_R C1 E1.1 (by omega)) (by omega) (fun r σ7 _ h7 => ?_)
    have c7 : CM mo pg σ1 σ7 := CM.set_of (by omega) h7.2
    have E7 := E1.at h7.2
    refine gX9_sum_9 ⟨(C1.chg c7).1, fun _ => ⟨rfl, c1.trans c7, _, k, sb.2, by omega, by omega, a4, E7⟩, fun z => absurd (by rw [E7.2.2]; exact nI_pos' (by omega)) z⟩
  | inr y =>
    obtain ⟨b, M1, a1, a2, a3⟩ := D1
    obtain ⟨y1, y2, H3⟩ := H2 y rfl
    refine CI.of (d2 := 0) (mlook_R C1 M1.1 (by omega)) (by omega) (fun r σ7 _ h7 => ?_)
    have c7 : CM mo pg σ1 σ7 := CM.set_of (by omega) h7.2
    have M7 := M1.at ne2 h7.2
    rw [h7.1, a2]
    rw [a2] at M7
    refine (H3 σ7 _ j d (C1.chg c7) M7 y1 y2 (by omega) (by unfold dS; omega)).post (fun oc σ' q => ⟨q.1, ?_⟩)
    exact MPost_pre (c1.trans c7) q.2
end MP
