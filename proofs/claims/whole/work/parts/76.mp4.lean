/-! ROWS of the model's parser: numbers of families, factors. -/
def okf (n : Nat) (rel : Nat → Bool) (v : Nat) : Bool := decide (v < n) && !rel v
section MP
variable {Γ : Gm} {mo tx pg ir tl n : Nat} {t : Nat → Int32} {rel : Nat → Bool}
theorem MN_fn {p o : Nat} : MN Γ MX9_reference 4 mo tx pg ir t tl n rel p o (fnR t tl (okf n rel) p) := by
  intro σ pr a j d C D ha hp hs' hl hd
  have tl2 : tl ≤ 200 := C.2.2.2.2.2.2.2.1
  have n2 : n ≤ 200 := C.2.2.2.2.2.2.2.2.1
  have hb : ∀ i, i < tl → by8 (t i) := C.2.2.2.2.2.2.2.2.2.2.2.2.2
  obtain ⟨ne, ne2⟩ := C.ne
  refine eX9_reference ⟨C.1, CI.of (d2 := 0) (mlook_R C D.1 (by omega)) (by omega) (fun r σ1 _ h1 => ?_)⟩
  obtain ⟨rfl, h1⟩ := h1
  rw [hs'] at h1 ⊢
  have c1 : CM mo pg σ σ1 := CM.set_of (by omega) h1
  have D1 := D.at ne2 h1
  have C1 := C.chg c1
  refine ⟨C1.1, CI.of (d2 := 1) (digits_R C1 D1.1 hp (by omega)) (by omega) (fun r σ5 _ h5 => ?_)⟩
  obtain ⟨rfl, h5⟩ := h5
  have c5 : CM mo pg σ σ5 := c1.trans (CM.set_of (by omega) h5)
  have D5 := D1.at ne2 h5
  have C5 := C.chg c5
  rw [D1.1]
  have ge := scn_ge isDb t tl p
  have le := scn_le (f := isDb) (t := t) hp
  have no : ¬ ((p < tl ∧ isDb (t p) = true) ∧ tnd t tl p - p ≤ 9 ∧ nvW t (tnd t tl p - p) p 0 < 200 ∧ okf n rel (nvW t (tnd t tl p - p) p 0) = true) → EV Γ MX9_reference d 25 [some (.ref mo), none, some (.int (nI p)), none, none, none] [] σ5 (fun oc σ' => oc = .inl none ∧ MPost mo pg t tl pr o j (fnR t tl (okf n rel) p) σ σ') := by
    intro z
    refine gX9_reference_25 ⟨C5.1, CV.of (d2 := 0) (wrong_R C5.1 D5.2.2.2.1) (by omega) (fun σ6 _ h6 => ⟨rfl, ?_⟩)⟩
    unfold fnR; rw [if_neg z]
    exact ⟨c5.trans (CM.set_of (by omega) h6), _, pr.length, by omega, by omega, by omega, by omega, D5.bad h6⟩
  refine ⟨fun z => no (fun y => ?_), fun z => ?_⟩
  · have : scn isDb t tl p - p = 0 := (nI_eq (a := scn isDb t tl p - p) (b := 0) (by omega) (by omega)).mp z
    have g := tnd_gt (t := t) y.1.1
    rw [tnd_D y.1.1 y.1.2] at g
    omega
  have hk : p < tl ∧ isDb (t p) = true := by
    have z : ¬ scn isDb t tl p - p = 0 := fun w => z (by rw [w]; rfl)
    rcases Nat.lt_or_ge p tl with c | c
    · refine ⟨c, ?_⟩
      cases q : isDb (t p)
      · have : scn isDb t tl p = p := scn_no q
        omega
      · rfl
    · have : scn isDb t tl p = p := scn_end c
      omega
  have eq := tnd_D hk.1 hk.2
  rw [← eq] at D5 ge le ⊢
  obtain ⟨q1, q2⟩ := tnd_gt (t := t) hk.1
  have qn : tnd t tl p ≤ nxt t tl p := scn_ge _ _ _ _
  refine ⟨fun y => ?_, fun y => no (fun w => y ((nI_leI (a := tnd t tl p - p) (b := 9) (by omega) (by omega)).mpr w.2.1))⟩
  have y9 := (nI_leI (a := tnd t tl p - p) (b := 9) (by omega) (by omega)).mp y
  have digs : ∀ j, p ≤ j → j < tnd t tl p → isDb (t j) = true := fun j a b => scn_in (f := isDb) a (by rw [← eq]; exact b)
  have big : nvW t (tnd t tl p - p) p 0 < 2 ^ 30 := by
    have := nvW_lt t (tnd t tl p - p) p 0 0 (fun j a b => digs j a (by omega)) (by omega)
    have h10 : 10 ^ (0 + (tnd t tl p - p)) ≤ 10 ^ 9 := Nat.pow_le_pow_right (by decide) (by omega)
    have : (10 : Nat) ^ 9 < 2 ^ 30 := by decide
    omega
  have bad : ∀ v, v = nvW t (tnd t tl p - p) p 0 → ¬ ((p < tl ∧ isDb (t p) = true) ∧ tnd t tl p - p ≤ 9 ∧ nvW t (tnd t tl p - p) p 0 < 200 ∧ okf n rel (nvW t (tnd t tl p - p) p 0) = true) → EV Γ MX9_reference d 93 [some (.ref mo), none, some (.int (nI p)), none, some (.int (nI v)), none] [] σ5 (fun oc σ' => oc = .inl none ∧ MPost mo pg t tl pr o j (fnR t tl (okf n rel) p) σ σ') := by
    intro v hv' z
    refine gX9_reference_93 ⟨C5.1, CV.of (d2 := 0) (wrong_R C5.1 D5.2.2.2.1) (by omega) (fun σ6 _ h6 => ?_)⟩
    have c6 : CM mo pg σ σ6 := c5.trans (CM.set_of (by omega) h6)
    have E6 := D5.bad h6
    refine gX9_reference_98 ⟨(C.chg c6).1, CV.of (d2 := 0) (madd_R (C.chg c6) E6.2.1 (by omega)) (by omega) (fun σ7 _ h7 => ⟨rfl, ?_⟩)⟩
    unfold fnR; rw [if_neg z]
    exact ⟨c6.trans (CM.add_of ne h7), _, pr.length + 1, by omega, by omega, by omega, by omega, E6.add ne h7⟩
  have L : ∀ m i v, i + m = tnd t tl p → p ≤ i → nvW t m i v = nvW t (tnd t tl p - p) p 0 → EV Γ MX9_reference d 37 [some (.ref mo), some (.int (lkv t tl p)), some (.int (nI p)), none, some (.int (nI v)), some (.int (nI i))] [] σ5 (fun oc σ' => oc = .inl none ∧ MPost mo pg t tl pr o j (fnR t tl (okf n rel) p) σ σ') := by
    intro m
    induction m with
    | zero =>
      intro i v hi hpi hh
      have hv' : v = nvW t (tnd t tl p - p) p 0 := hh
      have vb : v < 2 ^ 30 := by rw [hv']; exact big
      obtain ⟨K0, K1, K2, K3, K4, K5, K6, K7, K8, K9, K10, K11, K12, K13⟩ := C5
      refine gX9_reference_37 ⟨K0, fun _ => ⟨fun w => bad v hv' (fun u => ?_), fun w => ⟨ir, K2, 200, K5, ?_⟩⟩, fun w => absurd (by rw [D5.1]; exact nI_le (by omega) (by omega)) w⟩
      · rw [K10] at w
        have w := (nI_leI (a := n) (b := v) (by omega) (by omega)).mp w
        have u := u.2.2.2
        rw [← hv'] at u
        unfold okf at u
        rw [decide_eq_false (by omega), Bool.false_and] at u
        exact absurd u (by decide)
      · rw [K10] at w
        have lt : v < n := by
          rcases Nat.lt_or_ge v n with c | c
          · exact c
          · exact absurd ((nI_leI (a := n) (b := v) (by omega) (by omega)).mpr c) w
        refine ⟨v, IXn (by omega) (by omega), fun u => bad v hv' (fun y => ?_), fun u => ⟨fun _ => ?_, fun s => absurd ?_ s⟩⟩
        · rw [K12 v lt] at u
          have u := (b2i_ne0 _).mp u
          have y := y.2.2.2
          rw [← hv'] at y
          unfold okf at y
          rw [u, Bool.not_true, Bool.and_false] at y
          exact absurd y (by decide)
        · rw [K12 v lt] at u
          have u := (b2i_0 _).mp u
          refine gX9_reference_98 ⟨K0, CV.of (d2 := 0) (madd_R (C.chg c5) D5.2.1 (by omega)) (by omega) (fun σ7 _ h7 => ⟨rfl, ?_⟩)⟩
          unfold fnR
          rw [← hv', if_pos ⟨hk, y9, by omega, by unfold okf; rw [u, decide_eq_true lt]; rfl⟩]
          refine ⟨c5.trans (CM.add_of ne h7), tnd t tl p, D5.add ne rfl (nI_add 10000 v) h7, qn, rfl, ?_⟩
          show (pr ++ [10000 + v]).length + j ≤ tnd t tl p
          simp only [List.length_append, List.length_singleton]; omega
        · have h := (lkv_neg (t := t) (tl := tl) (s := p) hb)
          rw [Int32.le_iff_toInt_le]
          have nn : ¬ lkv t tl p < 0 := fun w => by have := h.mp w; omega
          rw [Int32.lt_iff_toInt_lt] at nn
          omega
    | succ m ih =>
      intro i v hi hpi hh
      refine gX9_reference_37 ⟨C5.1, fun w => absurd (by rw [D5.1] at w; exact (nI_leI (by omega) (by omega)).mp w) (by omega), fun _ => ⟨tx, C5.2.1, 200, C5.2.2.2.2.1, i, IXn (by omega) (by omega), ?_⟩⟩
      rw [C5.2.2.2.2.2.2.2.2.2.2.2.1 i (by omega), (dig_step (digs i hpi (by omega))).1, nI_1]
      exact ih (i + 1) _ (by omega) (by omega) hh
  exact L (tnd t tl p - p) p 0 (by omega) (Nat.le_refl _) rfl
theorem MN_fa {p o : Nat} {Rs Rw : RS} (hpt : p ≤ tl) (ho : o ≤ 20)
    (H : tkd t tl p = 40 → o < 20 → MN Γ MX9_sum (dS (o + 1)) mo tx pg ir t tl n rel (nxt t tl p) (o + 1) Rs)
    (H2 : ∀ x, Rs = .inr x → x.1 ≤ tl ∧ skp t tl x.1 = x.1)
    (Hw : tkd t tl p = 12 → tkd t tl (nxt t tl p) = 40 → o < 20 → MN Γ MX9_sum (dS (o + 1)) mo tx pg ir t tl n rel (nxt t tl (nxt t tl p)) (o + 1) Rw)
    (H3 : ∀ x, Rw = .inr x → x.1 ≤ tl ∧ skp t tl x.1 = x.1) :
    MN Γ MX9_factor (dF o) mo tx pg ir t tl n rel p o (faR t tl (okf n rel) p o Rs Rw) := by
  intro σ pr a j d C D ha hp hs' hl hd
  have tl2 : tl ≤ 200 := C.2.2.2.2.2.2.2.1
  have hb : ∀ i, i < tl → by8 (t i) := C.2.2.2.2.2.2.2.2.2.2.2.2.2
  have dp := dF_pos o
  obtain ⟨ne, ne2⟩ := C.ne
  have brle : ∀ x, brR t tl (nxt t tl p) o Rw = .inr x → x.1 ≤ tl := by
    intro x hx
    unfold brR at hx
    split at hx
    · cases hR : Rw with
      | inl e => rw [hR] at hx; exact absurd hx (by show ¬ (Sum.inl e : RS) = .inr x; simp)
      | inr y =>
        rw [hR] at hx
        have hx : (if tkd t tl y.1 = 41 then (Sum.inr (nxt t tl y.1, y.2) : RS) else .inl y.1) = .inr x := hx
        split at hx
        · rw [← Sum.inr.inj hx]; exact nxt_le (H3 y hR).1
        · exact absurd hx (by simp)
    · exact absurd hx (by simp)
  refine eX9_factor ⟨C.1, fun _ => CI.of (d2 := 0) (mlook_R C D.1 (by omega)) (by omega) (fun r σ3 _ h3 => ?_), fun z => absurd (by rw [D.2.2.2.1]; decide) z⟩
  obtain ⟨rfl, h3⟩ := h3
  rw [hs'] at h3 ⊢
  have c3 : CM mo pg σ σ3 := CM.set_of (by omega) h3
  have D3 := D.at ne2 h3
  have C3 := C.chg c3
  refine ⟨C3.1, fun z1 => CI.of (d2 := 0) misL_R (by omega) (fun r σ7 _ h7 => ?_), fun z1 => ?_⟩
  · have n40 : tkd t tl p ≠ 40 := fun w => z1 ((lkv_sym hb (by decide)).mpr w)
    obtain ⟨e7, rfl⟩ := h7
    subst e7
    refine ⟨fun z2 => ⟨fun z3 => CI.of (d2 := 0) misD_R (by omega) (fun r σ11 _ h11 => ?_), fun z3 => ⟨C3.1, fun σ23 e23 => ?_⟩⟩, fun z2 => ⟨C3.1, ?_⟩⟩
    · have n12 : tkd t tl p ≠ 12 := fun w => absurd ((b2i_0 _).mp z2) (by rw [(lkv_L hb).mpr w]; decide)
      have n35 : tkd t tl p ≠ 35 := fun w => z3 ((lkv_sym hb (by decide)).mpr w)
      obtain ⟨e11, rfl⟩ := h11
      subst e11
      refine ⟨fun z4 => ⟨C3.1, ?_⟩, fun z4 => ⟨C3.1, ?_⟩⟩
      · have n13 : tkd t tl p ≠ 13 := fun w => absurd ((b2i_0 _).mp z4) (by rw [(lkv_D hb).mpr w]; decide)
        refine CV.of (d2 := 0) (wrong_R C3.1 D3.2.2.2.1) (by omega) (fun σ15 _ h15 => ⟨rfl, ?_⟩)
        rw [D3.1] at h15
        unfold faR
        rw [if_neg n12, if_neg n13, if_neg n35, if_neg n40]
        exact MPost_bad c3 D3 hp tl2 (by omega) h15
      · have is13 := (lkv_D hb).mp ((b2i_ne0 _).mp z4)
        have hk := tkd_13.mp is13
        have eq := tnd_D hk.1 hk.2
        obtain ⟨q1, q2⟩ := tnd_gt (t := t) hk.1
        have qn : tnd t tl p ≤ nxt t tl p := scn_ge _ _ _ _
        have eF : faR t tl (okf n rel) p o Rs Rw = coR t tl p := by unfold faR; rw [if_neg n12, if_pos is13]
        rw [eF, lkv_id hb hk.1 hk.2]
        refine CI.of (d2 := 1) (digits_R C3 D3.1 hp (by omega)) (by omega) (fun r σ17 _ h17 => ?_)
        obtain ⟨rfl, h17⟩ := h17
        rw [← eq] at h17 ⊢
        have c17 : CM mo pg σ σ17 := c3.trans (CM.set_of (by omega) h17)
        have D17 := D3.at ne2 h17
        have C17 := C.chg c17
        rw [D3.1]
        have bad : ¬ (tnd t tl p = p + 1 ∧ (t p = 48 ∨ t p = 49)) → EV Γ MX9_factor d 91 [some (.ref mo), some (.int (t p)), some (.int (nI p)), none] [] σ17 (fun oc σ' => oc = .inl none ∧ MPost mo pg t tl pr o j (coR t tl p) σ σ') := by
          intro z
          refine gX9_factor_91 ⟨C17.1, CV.of (d2 := 0) (wrong_R C17.1 D17.2.2.2.1) (by omega) (fun σ6 _ h6 => ?_)⟩
          have c6 : CM mo pg σ σ6 := c17.trans (CM.set_of (by omega) h6)
          have E6 := D17.bad h6
          have h110 : ∀ s0 : Int32, EV Γ MX9_factor d 110 [none, none, none, none] [.int s0, .ref mo] σ6 (fun oc σ' => oc = .inl none ∧ MPost mo pg t tl pr o j (coR t tl p) σ σ') := by
            intro s0
            refine gX9_factor_110 ⟨(C.chg c6).1, CV.of (d2 := 0) (madd_R (C.chg c6) E6.2.1 (by omega)) (by omega) (fun σ7 _ h7 => ⟨rfl, ?_⟩)⟩
            unfold coR; rw [if_neg z]
            exact ⟨c6.trans (CM.add_of ne h7), _, pr.length + 1, by omega, by omega, by omega, by omega, E6.add ne h7⟩
          exact gX9_factor_96 ⟨fun _ => h110 _, fun _ => h110 _⟩
        refine ⟨fun z => bad (fun y => z (by rw [y.1, show p + 1 - p = 1 by omega]; rfl)), fun z => ⟨fun y => ?_, fun y => bad (fun w => ?_)⟩⟩
        · have q3 : tnd t tl p = p + 1 := by
            have := (nI_eq (a := tnd t tl p - p) (b := 1) (by omega) (by omega)).mp z
            omega
          have c89 : t p = 48 ∨ t p = 49 := by
            obtain ⟨k, hk1, e⟩ := db_of hk.2
            rw [e] at y ⊢
            have := (nI_leI (a := 48 + k) (b := 49) (by omega) (by omega)).mp y
            rcases Nat.eq_zero_or_pos k with w | w
            · left; rw [w]; rfl
            · right; rw [show k = 1 by omega]; rfl
          have h110 : ∀ (s0 : Int32) (s : Nat), s0 = nI s → coR t tl p = .inr (nxt t tl p, [s]) → EV Γ MX9_factor d 110 [none, none, none, none] [.int s0, .ref mo] σ17 (fun oc σ' => oc = .inl none ∧ MPost mo pg t tl pr o j (coR t tl p) σ σ') := by
            intro s0 s h1 h2
            refine gX9_factor_110 ⟨C17.1, CV.of (d2 := 0) (madd_R C17 D17.2.1 (by omega)) (by omega) (fun σ7 _ h7 => ⟨rfl, ?_⟩)⟩
            rw [h2]
            refine ⟨c17.trans (CM.add_of ne h7), tnd t tl p, D17.add ne rfl h1 h7, qn, rfl, ?_⟩
            show (pr ++ [s]).length + j ≤ tnd t tl p
            simp only [List.length_append, List.length_singleton]; omega
          refine gX9_factor_96 ⟨fun w => h110 100 100 rfl ?_, fun w => h110 99 99 rfl ?_⟩
          · unfold coR; rw [if_pos ⟨q3, c89⟩, if_neg w]
          · unfold coR; rw [if_pos ⟨q3, c89⟩, if_pos w]
        · rcases w.2 with w | w
          · rw [w] at y; exact y (by decide)
          · rw [w] at y; exact y (by decide)
    · have is35 := (lkv_sym hb (by decide)).mp z3
      have lt := tkd_is (by decide) is35
      have et : tnd t tl p = p + 1 := tnd_syb lt.1 (by rw [lt.2]; decide)
      have nx := nxt_gt (t := t) lt.1
      have ek : skp t tl (p + 1) = nxt t tl p := by unfold nxt; rw [et]
      rw [D3.1, nI_1] at e23
      have c23 : CM mo pg σ σ23 := c3.trans (CM.set_of (by omega) e23)
      refine CV.of (d2 := 4) (MN_fn σ23 pr (p + 1) j 4 (C.chg c23) (D3.at ne2 e23) (by omega) nx.2 ek (by omega) (by omega)) (by omega) (fun σ26 _ h26 => ⟨rfl, ?_⟩)
      unfold faR
      rw [if_neg (by rw [is35]; decide), if_neg (by rw [is35]; decide), if_pos is35]
      exact ⟨c23.trans h26.1, h26.2⟩
    · have is12 := (lkv_L hb).mp ((b2i_ne0 _).mp z2)
      have hk := tkd_12.mp is12
      refine CV.of (d2 := d - 1) (MN_wd (j := j) C3 D3 hk.1 hk.2 (by omega) ho (by unfold dW; omega) (MN_br ho (Hw is12) H3) brle) (by omega) (fun σ28 _ h28 => ⟨rfl, ?_⟩)
      unfold faR
      rw [if_pos is12]
      exact ⟨c3.trans h28.1, h28.2⟩
  · have is40 := (lkv_sym hb (by decide)).mp z1
    refine CV.of (d2 := d - 1) (MN_br ho H H2 σ3 pr p j (d - 1) C3 D3 (Nat.le_refl _) hp (by rw [← hs']; exact scn_idem (by omega)) (by omega) (by unfold dB; omega)) (by omega) (fun σ28 _ h28 => ⟨rfl, ?_⟩)
    unfold faR
    rw [if_neg (by rw [is40]; decide), if_neg (by rw [is40]; decide), if_neg (by rw [is40]; decide), if_pos is40]
    exact ⟨c3.trans h28.1, h28.2⟩
end MP
