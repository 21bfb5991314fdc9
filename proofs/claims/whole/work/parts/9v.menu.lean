/-! ROWS of the model: the cheapest sets, by insertion. -/
def LI (G : Nat → Prop) (κ : Nat → Int) (n : Nat) (l : Nat → Int32) : Prop := ∀ i, i < n → ∃ x, x < 4096 ∧ G x ∧ rkG G κ x = i ∧ l i = nI x
section INS
variable {G G' : Nat → Prop} {κ : Nat → Int} {m n : Nat} {l l' : Nat → Int32}
theorem rk_ins (hm : m < 4096) (ng : ¬ G m) (e : ∀ y, y < 4096 → (G' y ↔ G y ∨ y = m)) (x : Nat) : rkG G' κ x = rkG G κ x + (if κ m < κ x then 1 else 0) := by
  unfold rkG
  by_cases h : κ m < κ x
  · rw [if_pos h]
    have e1 := ctp_or (P := fun y => G y ∧ κ y < κ x) (Q := fun y => y = m) (n := 4096) (fun y _ z => ng (by rw [← z.2]; exact z.1.1))
    have e2 := ctp_one (P := fun y => y = m) hm (fun y _ => Iff.rfl)
    have e3 : ctp (fun y => G' y ∧ κ y < κ x) 4096 = ctp (fun y => (G y ∧ κ y < κ x) ∨ y = m) 4096 := ctp_congr (fun y hy => ⟨fun z => ((e y hy).mp z.1).elim (fun t => Or.inl ⟨t, z.2⟩) Or.inr, fun z => z.elim (fun t => ⟨(e y hy).mpr (Or.inl t.1), t.2⟩) (fun t => ⟨(e y hy).mpr (Or.inr t), by rw [t]; exact h⟩)⟩)
    omega
  · rw [if_neg h, Nat.add_zero]
    exact ctp_congr (fun y hy => ⟨fun z => ⟨((e y hy).mp z.1).resolve_right (fun t => h (by rw [← t]; exact z.2)), z.2⟩, fun z => ⟨(e y hy).mpr (Or.inl z.1), z.2⟩⟩)
theorem rk_side (inj : ∀ x y, x < 4096 → y < 4096 → κ x = κ y → x = y) (hm : m < 4096) (ng : ¬ G m) {x : Nat} (hx : x < 4096) (gx : G x) : κ x < κ m ↔ rkG G κ x < rkG G κ m := by
  refine ⟨fun h => rk_lt hx gx h, fun h => ?_⟩
  rcases Int.lt_trichotomy (κ x) (κ m) with c | c | c
  · exact c
  · exact absurd (by rw [← inj x m hx hm c]; exact gx) ng
  · have : rkG G κ m ≤ rkG G κ x := ctp_sub (fun y _ z => ⟨z.1, by have := z.2; omega⟩)
    omega
theorem rkm_le : rkG G κ m ≤ ctp G 4096 := ctp_sub (fun _ _ z => z.1)
theorem ct_ins (hm : m < 4096) (ng : ¬ G m) (e : ∀ y, y < 4096 → (G' y ↔ G y ∨ y = m)) : ctp G' 4096 = ctp G 4096 + 1 := by
  have e1 := ctp_or (P := G) (Q := fun y => y = m) (n := 4096) (fun y _ z => ng (by rw [← z.2]; exact z.1))
  have e2 := ctp_one (P := fun y => y = m) hm (fun y _ => Iff.rfl)
  have e3 : ctp G' 4096 = ctp (fun y => G y ∨ y = m) 4096 := ctp_congr e
  omega
theorem LI.keep (h : LI G κ n l) (inj : ∀ x y, x < 4096 → y < 4096 → κ x = κ y → x = y) (hm : m < 4096) (ng : ¬ G m) (e : ∀ y, y < 4096 → (G' y ↔ G y ∨ y = m)) (hr : n ≤ rkG G κ m) : LI G' κ n l := by
  intro i hi
  obtain ⟨x, x1, x2, x3, x4⟩ := h i hi
  have s := (rk_side inj hm ng x1 x2).mpr (by omega)
  exact ⟨x, x1, (e x x1).mpr (Or.inl x2), by rw [rk_ins hm ng e, if_neg (by omega), Nat.add_zero]; exact x3, x4⟩
theorem LI.ins {n' : Nat} (h : LI G κ n l) (inj : ∀ x y, x < 4096 → y < 4096 → κ x = κ y → x = y) (hm : m < 4096) (ng : ¬ G m) (e : ∀ y, y < 4096 → (G' y ↔ G y ∨ y = m)) (hr : rkG G κ m ≤ n) (hn : n' ≤ n + 1) (hl : ∀ i, i < n' → l' i = if i < rkG G κ m then l i else if i = rkG G κ m then nI m else l (i - 1)) : LI G' κ n' l' := by
  intro i hi
  rw [hl i hi]
  by_cases c1 : i < rkG G κ m
  · obtain ⟨x, x1, x2, x3, x4⟩ := h i (by omega)
    have s := (rk_side inj hm ng x1 x2).mpr (by omega)
    exact ⟨x, x1, (e x x1).mpr (Or.inl x2), by rw [rk_ins hm ng e, if_neg (by omega), Nat.add_zero]; exact x3, by rw [if_pos c1]; exact x4⟩
  · rw [if_neg c1]
    by_cases c2 : i = rkG G κ m
    · exact ⟨m, hm, (e m hm).mpr (Or.inr rfl), by rw [rk_ins hm ng e, if_neg (by omega), Nat.add_zero]; exact c2.symm, by rw [if_pos c2]⟩
    · obtain ⟨x, x1, x2, x3, x4⟩ := h (i - 1) (by omega)
      have s : ¬ κ x < κ m := fun t => by
        have := (rk_side inj hm ng x1 x2).mp t
        omega
      have ne : κ x ≠ κ m := fun t => ng (by rw [← inj x m x1 hm t]; exact x2)
      exact ⟨x, x1, (e x x1).mpr (Or.inl x2), by rw [rk_ins hm ng e, if_pos (by omega), x3]; omega, by rw [if_neg c2]; exact x4⟩
end INS
theorem kap_lt {k : Nat → Int32} {x m : Nat} (hx : x < m) (hm : m < 4096) : kap k x < kap k m ↔ csum k 12 x ≤ csum k 12 m := by
  unfold kap
  rw [Int32.le_iff_toInt_le]
  omega
/-- candidates below -/
def cG (k : Nat → Int32) (b : Int32) (F : Nat → Bool) (m x : Nat) : Prop := cndG k b F x ∧ x < m
section MEN
variable {Γ : Gm} {d : Nat} {σ : AH} {own mad : Nat → Nat} {S : StT} {c : Nat}
theorem RepM.lst {τ τ' : AH} {l : Nat → Int32} {n i : Nat} {x : Int32} (R : RepM Γ τ own mad (stH S l n) c) (e : τ' = setI τ (mad 6) i x) : RepM Γ τ' own mad (stH S (gi τ' (mad 6)) n) c ∧ FR (MDs mad) τ τ' := by
  have F : FR (MDs mad) τ τ' := by rw [e]; exact FR.setI _ _ _ ⟨6, by omega, rfl⟩
  have gn : ∀ i, i < 12 → i ≠ 6 → gi τ' (mad i) = gi τ (mad i) := fun i hi h6 => by rw [e]; exact up_ne _ _ (R.ne hi (by omega) h6)
  have R' := R
  obtain ⟨O, x1, x2, x3, ⟨t1, t2, t3, t4, t5, t6⟩, x5, x6⟩ := R'
  refine ⟨R.ints F (by rw [e]; rfl) (by rw [e]; rfl) ?_ ?_ x6, F⟩
  · unfold M3
    rw [gn 0 (by omega) (by omega)]; exact x3
  · unfold M4
    rw [gn 1 (by omega) (by omega), gn 2 (by omega) (by omega), gn 3 (by omega) (by omega), gn 5 (by omega) (by omega), show gj τ' = gj τ by rw [e]; rfl]
    exact ⟨t1, t2, t3, t4, fun i hi => rfl, t6⟩
theorem RepM.cnt {τ τ' : AH} {l : Nat → Int32} {n n' : Nat} (R : RepM Γ τ own mad (stH S l n) c) (hn : n' ≤ 300) (e : τ' = setI τ (mad 0) 12 (nI n')) : RepM Γ τ' own mad (stH S (gi τ' (mad 6)) n') c ∧ FR (MDs mad) τ τ' ∧ gi τ' (mad 6) = gi τ (mad 6) := by
  have F : FR (MDs mad) τ τ' := by rw [e]; exact FR.setI _ _ _ ⟨0, by omega, rfl⟩
  have gn : ∀ i, i < 12 → i ≠ 0 → gi τ' (mad i) = gi τ (mad i) := fun i hi h0 => by rw [e]; exact up_ne _ _ (R.ne hi (by omega) h0)
  have g0 : gi τ' (mad 0) = up (gi τ (mad 0)) 12 (nI n') := by rw [e]; exact up_same _ _ _
  have R' := R
  obtain ⟨O, x1, x2, ⟨y1, y2, y3, y4, y5, y6⟩, ⟨t1, t2, t3, t4, t5, t6⟩, x5, ⟨z1, z2, z3, z4, z5, z6, z7, z8⟩⟩ := R'
  refine ⟨R.ints F (by rw [e]; rfl) (by rw [e]; rfl) ?_ ?_ ⟨z1, z2, z3, hn, z5, z6, z7, z8⟩, F, gn 6 (by omega) (by omega)⟩
  · unfold M3
    rw [g0]
    exact ⟨(up_ne _ _ (by decide)).trans y1, (up_ne _ _ (by decide)).trans y2, (up_ne _ _ (by decide)).trans y3, (up_ne _ _ (by decide)).trans y4, (up_ne _ _ (by decide)).trans y5, up_same _ _ _⟩
  · unfold M4
    rw [gn 1 (by omega) (by omega), gn 2 (by omega) (by omega), gn 3 (by omega) (by omega), gn 5 (by omega) (by omega), show gj τ' = gj τ by rw [e]; rfl]
    exact ⟨t1, t2, t3, t4, fun i hi => rfl, t6⟩
theorem RepM.rel {τ : AH} {l l' : Nat → Int32} {n : Nat} (R : RepM Γ τ own mad (stH S l n) c) (h : ∀ i, i < n → l i = l' i) : RepM Γ τ own mad (stH S l' n) c := by
  obtain ⟨O, x1, x2, x3, ⟨t1, t2, t3, t4, t5, t6⟩, x5, x6⟩ := R
  exact ⟨O, x1, x2, x3, ⟨t1, t2, t3, t4, fun i hi => (t5 i hi).trans (h i hi), t6⟩, x5, x6⟩
/-- a walk that only wrote the list -/
def ML (Γ : Gm) (σ : AH) (own mad : Nat → Nat) (S : StT) (c : Nat) (τ : AH) (n : Nat) : Prop := RepM Γ τ own mad (stH S (gi τ (mad 6)) n) c ∧ FR (RP MW own (lo Γ + hc σ)) σ τ ∧ hc τ = hc σ ∧ hv τ = hv σ ∧ gi τ (mad 0) 0 = 0
theorem ML.lst {τ τ' : AH} {n i : Nat} {x : Int32} (h : ML Γ σ own mad S c τ n) (e : τ' = setI τ (mad 6) i x) : ML Γ σ own mad S c τ' n ∧ gi τ' (mad 6) = up (gi τ (mad 6)) i x := by
  obtain ⟨R, F0, c0, v0, g0⟩ := h
  obtain ⟨R1, F1⟩ := R.lst e
  refine ⟨⟨R1, F0.trans ((F1.mono (fun _ z => R.md z)).mw (by rw [c0])), by rw [e]; exact c0, by rw [e]; exact v0, ?_⟩, by rw [e]; exact up_same _ _ _⟩
  rw [e]
  exact (congrFun (up_ne _ _ (R.ne (by omega) (by omega) (by omega))) 0).trans g0
theorem ML.cnt {τ τ' : AH} {n n' : Nat} (h : ML Γ σ own mad S c τ n) (hn : n' ≤ 300) (e : τ' = setI τ (mad 0) 12 (nI n')) : ML Γ σ own mad S c τ' n' ∧ gi τ' (mad 6) = gi τ (mad 6) := by
  obtain ⟨R, F0, c0, v0, g0⟩ := h
  obtain ⟨R1, F1, g6⟩ := R.cnt hn e
  refine ⟨⟨R1, F0.trans ((F1.mono (fun _ z => R.md z)).mw (by rw [c0])), by rw [e]; exact c0, by rw [e]; exact v0, ?_⟩, g6⟩
  rw [e]
  exact (congrFun (up_same _ _ _) 0).trans ((up_ne _ _ (by decide)).trans g0)
theorem ML.n {τ : AH} {n : Nat} (h : ML Γ σ own mad S c τ n) : gi τ (mad 0) 12 = nI n := h.1.2.2.2.1.2.2.2.2.2
/-- the shift: from the end down to the place -/
theorem mshift {τ : AH} {l : Nat → Int32} {f b lm : Int32} {m n r p : Nat} {Q : Oc → AH → Prop} (hm : m < 4096) (hn : n ≤ 300) (hp : p < 300) (hrp : r ≤ p) (hpn : p ≤ n) (lo' : ∀ i, i < r → ∃ x, x < 4096 ∧ l i = nI x ∧ csum (sK S) 12 x ≤ csum (sK S) 12 m) (hi : ∀ i, r ≤ i → i < p → ∃ x, x < 4096 ∧ l i = nI x ∧ ¬ csum (sK S) 12 x ≤ csum (sK S) 12 m) (h : ML Γ σ own mad S c τ n) (h6 : gi τ (mad 6) = l) (hd : 4 ≤ d) (k : ∀ τ', ML Γ σ own mad S c τ' n → gi τ' (mad 6) = (fun i => if r < i ∧ i ≤ p then l (i - 1) else l i) → EV Γ MX9_enumerate d 179 [some (.ref (mad 0)), some (.int f), some (.int b), some (.int lm), some (.int (nI m)), some (.int (nI r))] [] τ' Q) : EV Γ MX9_enumerate d 130 [some (.ref (mad 0)), some (.int f), some (.int b), some (.int lm), some (.int (nI m)), some (.int (nI p))] [] τ Q := by
  have L : ∀ q, r + q ≤ p → ∀ τ', ML Γ σ own mad S c τ' n → gi τ' (mad 6) = (fun i => if r + q < i ∧ i ≤ p then l (i - 1) else l i) → EV Γ MX9_enumerate d 130 [some (.ref (mad 0)), some (.int f), some (.int b), some (.int lm), some (.int (nI m)), some (.int (nI (r + q)))] [] τ' Q := by
    intro q
    induction q with
    | zero =>
      intro _ τ' h' g'
      by_cases z : r = 0
      · subst z
        exact gX9_enumerate_130 ⟨fun _ => k τ' h' g', fun y => absurd (by decide) y⟩
      · refine gX9_enumerate_130 ⟨fun y => absurd ((nI_le0 (by omega)).mp y) (by omega), fun _ => ⟨h'.1.2.1.1, mad 6, h'.1.2.1.2.2.2.2.2.2.1, 300, h'.1.2.2.1.2.2.2.2.2.1, r - 1, ?_, ?_⟩⟩
        · rw [show nI (r + 0) - 1 = nI (r - 1) from pk_sub (b := 1) (by omega)]
          exact IXn (by omega) (by omega)
        · obtain ⟨x, x1, x2, x3⟩ := lo' (r - 1) (by omega)
          rw [g']
          show CI Γ d MX9_costOf [.ref (mad 0), .int (if r + 0 < r - 1 ∧ r - 1 ≤ p then l (r - 1 - 1) else l (r - 1))] τ' _ _
          rw [if_neg (by omega), x2]
          exact cost_call h'.1 x1 ⟨h'.1.2.1.1, cost_call h'.1 hm ⟨fun _ => k τ' h' g', fun y => absurd x3 y⟩ (by omega)⟩ (by omega)
    | succ q ih =>
      intro hq τ' h' g'
      refine gX9_enumerate_130 ⟨fun y => absurd ((nI_le0 (by omega)).mp y) (by omega), fun _ => ⟨h'.1.2.1.1, mad 6, h'.1.2.1.2.2.2.2.2.2.1, 300, h'.1.2.2.1.2.2.2.2.2.1, r + q, ?_, ?_⟩⟩
      · rw [show nI (r + (q + 1)) - 1 = nI (r + q) from pk_sub (a := r + (q + 1)) (b := 1) (by omega)]
        exact IXn (by omega) (by omega)
      · obtain ⟨x, x1, x2, x3⟩ := hi (r + q) (by omega) (by omega)
        have gq : gi τ' (mad 6) (r + q) = l (r + q) := by
          rw [g']
          show (if r + (q + 1) < r + q ∧ r + q ≤ p then _ else l (r + q)) = _
          rw [if_neg (by omega)]
        rw [gq, x2]
        refine cost_call h'.1 x1 ⟨h'.1.2.1.1, cost_call h'.1 hm ⟨fun y => absurd y x3, fun _ => ⟨h'.1.2.1.1, mad 6, h'.1.2.1.2.2.2.2.2.2.1, 300, h'.1.2.2.1.2.2.2.2.2.1, r + q, ?_, r + (q + 1), IXn (by omega) (by omega), fun σ24 e24 => ?_⟩⟩ (by omega)⟩ (by omega)
        · rw [show nI (r + (q + 1)) - 1 = nI (r + q) from pk_sub (a := r + (q + 1)) (b := 1) (by omega)]
          exact IXn (by omega) (by omega)
        · obtain ⟨h2, g2⟩ := h'.lst e24
          rw [show nI (r + (q + 1)) + (-1) = nI (r + q) from by
            rw [show r + (q + 1) = r + q + 1 by omega, ← nI_1, Int32.add_assoc]
            exact Int32.add_zero _]
          refine ih (by omega) σ24 h2 ?_
          rw [g2, gq, g']
          funext i
          by_cases y : i = r + (q + 1)
          · rw [y, up_same]
            rw [if_pos ⟨by omega, by omega⟩]
            rw [show r + (q + 1) - 1 = r + q by omega]
          · rw [up_ne _ _ y]
            by_cases y2 : r + (q + 1) < i ∧ i ≤ p
            · rw [if_pos y2, if_pos ⟨by omega, y2.2⟩]
            · rw [if_neg y2, if_neg (by omega)]
  have e : r + (p - r) = p := by omega
  have := L (p - r) (by omega) τ h (by
    rw [h6]
    funext i
    rw [if_neg (by omega)])
  rw [e] at this
  exact this
theorem menumerate_C {f b lm : Int32} (R : RepM Γ σ own mad S c) (hd : 4 ≤ d) : CMN Γ d MX9_enumerate [.ref (mad 0), .int f, .int b, .int lm] σ own mad c (aEnum S f b lm) := by
  refine RUN.wf (fun W => eX9_enumerate ⟨R.2.1.1, mlook_call R ⟨R.2.1.1, fun σ5 e5 => ?_⟩ (by omega)⟩)
  obtain ⟨R5, F5, g5, st, W5⟩ := mq_code R W e5
  have c5 : hc σ5 = hc σ := by rw [e5]; rfl
  have v5 : hv σ5 = hv σ := by rw [e5]; rfl
  rw [g5]
  rcases fcd_le S f with e | e | e
  · have pre : aEnum S f b lm = if lm < 1 ∨ ¬ lm ≤ 300 then (3, 0, S) else (0, nI (min (ixF lm) (ctp (cndG (sK S) b (sF S (ixF f))) 4096)), stH S (enL (cndG (sK S) b (sF S (ixF f))) (kap (sK S))) (min (ixF lm) (ctp (cndG (sK S) b (sF S (ixF f))) 4096))) := (if_neg (by omega)).trans (if_neg (by omega))
    rw [e] at g5 ⊢
    have bad : (lm < 1 ∨ ¬ lm ≤ 300) → EV Γ MX9_enumerate d 30 [some (.ref (mad 0)), none, none, none, none, none] [] σ5 (fun oc σ' => ansM (aEnum S f b lm) (mad 0) oc σ' ∧ StepM Γ σ own mad c (aEnum S f b lm).2.2 σ') := fun h =>
      gX9_enumerate_30 ⟨R5.2.1.1, mfail_any (k := 3) R5 F5 c5 v5 (pre.trans (if_pos h)) (by omega)⟩
    refine ⟨fun _ => ⟨fun y => bad (Or.inl y), fun y1 => ⟨fun y2 σ11 e11 => ?_, fun y => bad (Or.inr y)⟩⟩, fun z => absurd rfl z⟩
    have hA := pre.trans (if_neg (fun t => t.elim y1 (fun t => t y2)))
    -- the limit as a number
    have hl0 : ¬ lm < 0 := fun t => y1 (Int32.lt_trans t (by decide))
    obtain ⟨Lm, hL, rfl⟩ := nI_of hl0
    have eL : ixF (nI Lm) = Lm := pk_tn (by omega)
    have L3 : Lm ≤ 300 := (nI_leI (b := 300) hL (by omega)).mp y2
    have L1 : 1 ≤ Lm := by
      rcases Nat.eq_zero_or_pos Lm with z | z
      · exact absurd (by rw [z]; decide) y1
      · exact z
    rw [eL] at hA
    rw [hA]
    have hasE : ∀ {τ : AH} {n m : Nat} {K : Int32 → AH → Prop} {KX : String → AH → Prop}, ML Γ σ own mad S c τ n → m < 4096 → K (b2i (sF S (ixF f) m)) τ → CI Γ d MX9_has [.ref (mad 4), .int f, .int (nI m)] τ K KX := fun h hm k => mhas_call h.1 e hm k (by omega)
    generalize hF : sF S (ixF f) = F at *
    generalize hcf : (0, nI (min Lm (ctp (cndG (sK S) b F) 4096)), stH S (enL (cndG (sK S) b F) (kap (sK S))) (min Lm (ctp (cndG (sK S) b F) 4096))) = AA at *
    have inj := kap_inj (k := sK S)
    have ML11 : ML Γ σ own mad S c σ11 0 := by
      have h0 : RepM Γ σ5 own mad (stH S (sH S) (sHL S)) c := R5
      obtain ⟨R1, F1, g6⟩ := h0.cnt (n' := 0) (by omega) e11
      refine ⟨R1, F5.trans ((F1.mono (fun _ z => R5.md z)).mw (by rw [c5])), by rw [e11]; exact c5, by rw [e11]; exact v5, ?_⟩
      rw [e11]
      exact (congrFun (up_same _ _ _) 0).trans ((up_ne _ _ (by decide)).trans g5)
    have main : ∀ m, m ≤ 4096 → ∀ τ n, ML Γ σ own mad S c τ n → n = min Lm (ctp (cG (sK S) b F m) 4096) → LI (cG (sK S) b F m) (kap (sK S)) n (gi τ (mad 6)) → EV Γ MX9_enumerate d 44 [some (.ref (mad 0)), some (.int f), some (.int b), some (.int (nI Lm)), some (.int (nI m)), none] [] τ (fun oc σ' => ansM AA (mad 0) oc σ' ∧ StepM Γ σ own mad c AA.2.2 σ') := by
      refine upto 4096 (fun τ n h hn hl => ?_) (fun m hm ih τ n h hn hl => ?_)
      · refine gX9_enumerate_44 ⟨fun _ => ⟨h.1.2.1.1, ?_⟩, fun y => absurd ((c4096le (by omega)).mpr (by omega)) y⟩
        rw [h.n]
        have ec : ctp (cG (sK S) b F 4096) 4096 = ctp (cndG (sK S) b F) 4096 := ctp_congr (fun x hx => ⟨fun z => z.1, fun z => ⟨z, hx⟩⟩)
        have en : n = min Lm (ctp (cndG (sK S) b F) 4096) := by rw [hn, ec]
        have er : ∀ x, rkG (cG (sK S) b F 4096) (kap (sK S)) x = rkG (cndG (sK S) b F) (kap (sK S)) x := fun x => ctp_congr (fun y hy => ⟨fun z => ⟨z.1.1, z.2⟩, fun z => ⟨⟨z.1, hy⟩, z.2⟩⟩)
        have R2 := h.1.rel (l' := enL (cndG (sK S) b F) (kap (sK S))) (fun i hi => by
          obtain ⟨x, x1, x2, x3, x4⟩ := hl i hi
          rw [x4, enL_eq inj x1 x2.1 ((er x).symm.trans x3)])
        rw [← hcf, ← en]
        exact ⟨⟨rfl, h.2.2.2.2⟩, StepM.same R2 h.2.1 h.2.2.1 h.2.2.2.1⟩
      · have n300 : n ≤ 300 := by omega
        have skipG : ¬ cndG (sK S) b F m → EV Γ MX9_enumerate d 44 [some (.ref (mad 0)), some (.int f), some (.int b), some (.int (nI Lm)), some (.int (nI m + 1)), none] [] τ (fun oc σ' => ansM AA (mad 0) oc σ' ∧ StepM Γ σ own mad c AA.2.2 σ') := by
          intro nc
          have eG : cG (sK S) b F (m + 1) = cG (sK S) b F m := by
            funext x
            refine propext ⟨fun z => ⟨z.1, ?_⟩, fun z => ⟨z.1, by have := z.2; omega⟩⟩
            rcases Nat.lt_or_ge x m with v | v
            · exact v
            · have := z.2
              exact absurd (by rw [show m = x by omega]; exact z.1) nc
          rw [nI_1]
          refine ih τ n h ?_ ?_
          · rw [eG]; exact hn
          · rw [eG]; exact hl
        refine gX9_enumerate_44 ⟨fun y => absurd ((c4096le (by omega)).mp y) (by omega), fun _ => ⟨h.1.2.1.1, mad 4, h.1.2.1.2.2.2.2.1, hasE h hm ?_⟩⟩
        cases q : F m
        · exact ⟨fun _ => skipG (fun z => by
            have z1 : F m = true := z.1
            rw [q] at z1; exact absurd z1 (by decide)), fun y => absurd rfl y⟩
        · refine ⟨fun y => absurd y (by decide), fun _ => ⟨h.1.2.1.1, cost_call h.1 hm ⟨fun y => ?_, fun y => ?_⟩ (by omega)⟩⟩
          · have cm : cndG (sK S) b F m := ⟨q, Int32.not_lt.mpr y⟩
            have ng : ¬ cG (sK S) b F m m := fun z => absurd z.2 (Nat.lt_irrefl m)
            have eG : ∀ x, x < 4096 → (cG (sK S) b F (m + 1) x ↔ cG (sK S) b F m x ∨ x = m) := fun x _ => ⟨fun z => by
              rcases Nat.lt_or_ge x m with v | v
              · exact Or.inl ⟨z.1, v⟩
              · have := z.2
                exact Or.inr (by omega), fun z => z.elim (fun t => ⟨t.1, by have := t.2; omega⟩) (fun t => by rw [t]; exact ⟨cm, Nat.lt_succ_self m⟩)⟩
            have ect := ct_ins hm ng eG
            have rle := rkm_le (G := cG (sK S) b F m) (κ := kap (sK S)) (m := m)
            generalize hrr : rkG (cG (sK S) b F m) (kap (sK S)) m = r at *
            -- which of the listed ones cost more
            have side : ∀ i, i < n → ∃ x, x < 4096 ∧ gi τ (mad 6) i = nI x ∧ (csum (sK S) 12 x ≤ csum (sK S) 12 m ↔ i < r) := fun i hi => by
              obtain ⟨x, x1, x2, x3, x4⟩ := hl i hi
              refine ⟨x, x1, x4, ?_⟩
              rw [← kap_lt x2.2 hm, rk_side inj hm ng x1 x2, x3, hrr]
            -- behind the place
            have place : ∀ p τ', p = (if n = Lm then Lm - 1 else n) → r ≤ p → ML Γ σ own mad S c τ' n → gi τ' (mad 6) = gi τ (mad 6) → EV Γ MX9_enumerate d 130 [some (.ref (mad 0)), some (.int f), some (.int b), some (.int (nI Lm)), some (.int (nI m)), some (.int (nI p))] [] τ' (fun oc σ' => ansM AA (mad 0) oc σ' ∧ StepM Γ σ own mad c AA.2.2 σ') := by
              intro p τ' hp hrp h' g'
              have p1 : p < 300 ∧ p ≤ n ∧ p < Lm := by
                by_cases y : n = Lm
                · rw [if_pos y] at hp; omega
                · rw [if_neg y] at hp; omega
              refine mshift (l := gi τ (mad 6)) (r := r) (p := p) hm n300 p1.1 hrp p1.2.1 (fun i hi => ?_) (fun i hi1 hi2 => ?_) h' g' hd (fun τ2 h2 g2 => ?_)
              · obtain ⟨x, x1, x2, x3⟩ := side i (by omega)
                exact ⟨x, x1, x2, x3.mpr hi⟩
              · obtain ⟨x, x1, x2, x3⟩ := side i (by omega)
                exact ⟨x, x1, x2, fun t => by have := x3.mp t; omega⟩
              · refine gX9_enumerate_179 ⟨h2.1.2.1.1, mad 6, h2.1.2.1.2.2.2.2.2.2.1, 300, h2.1.2.2.1.2.2.2.2.2.1, r, IXn (by omega) (by omega), fun σ8 e8 => ?_⟩
                obtain ⟨h8, g8⟩ := h2.lst e8
                rw [h8.n, nI_1]
                have spec : ∀ n', n' ≤ p + 1 → ∀ i, i < n' → gi σ8 (mad 6) i = if i < r then gi τ (mad 6) i else if i = r then nI m else gi τ (mad 6) (i - 1) := by
                  intro n' hn' i hi
                  rw [g8, g2]
                  by_cases y : i = r
                  · rw [y, up_same, if_neg (Nat.lt_irrefl r), if_pos rfl]
                  · rw [up_ne _ _ y]
                    by_cases y2 : i < r
                    · rw [if_pos y2, if_neg (by omega)]
                    · rw [if_neg y2, if_neg y, if_pos ⟨by omega, by omega⟩]
                refine ⟨fun t => ?_, fun t σ14 e14 => ?_⟩
                · have nl : n = Lm := by
                    have := (nI_leI (by omega) (by omega)).mp t
                    omega
                  rw [if_pos nl] at hp
                  refine ih σ8 n h8 ?_ ?_
                  · rw [ect]; omega
                  · exact hl.ins inj hm ng eG (by rw [hrr]; omega) (by omega) (fun i hi => by rw [hrr]; exact spec n (by omega) i hi)
                · have nl : n ≠ Lm := fun z => t ((nI_leI (by omega) (by omega)).mpr (by omega))
                  rw [if_neg nl] at hp
                  rw [nI_1] at e14
                  obtain ⟨h14, g14⟩ := h8.cnt (n' := n + 1) (by omega) e14
                  refine ih σ14 (n + 1) h14 ?_ ?_
                  · rw [ect]; omega
                  · rw [g14]
                    exact hl.ins inj hm ng eG (by rw [hrr]; omega) (by omega) (fun i hi => by rw [hrr]; exact spec (n + 1) (by omega) i hi)
            have at110 : ∀ τ', ML Γ σ own mad S c τ' n → gi τ' (mad 6) = gi τ (mad 6) → r ≤ (if n = Lm then Lm - 1 else n) → EV Γ MX9_enumerate d 110 [some (.ref (mad 0)), some (.int f), some (.int b), some (.int (nI Lm)), some (.int (nI m)), none] [] τ' (fun oc σ' => ansM AA (mad 0) oc σ' ∧ StepM Γ σ own mad c AA.2.2 σ') := by
              intro τ' h' g' hrp
              refine gX9_enumerate_110 ⟨h'.1.2.1.1, fun t => ?_, fun t => ?_⟩
              · rw [h'.n] at t ⊢
                have nl : n ≠ Lm := fun z => t (by rw [z])
                rw [if_neg nl] at hrp
                exact place n τ' (if_neg nl).symm hrp h' g'
              · rw [h'.n] at t
                have nl : n = Lm := (nI_eq (by omega) (by omega)).mp t
                rw [if_pos nl] at hrp
                rw [show nI Lm - 1 = nI (Lm - 1) from pk_sub (b := 1) (by omega)]
                exact place (Lm - 1) τ' (if_pos nl).symm hrp h' g'
            refine ⟨h.1.2.1.1, fun t => ?_, fun t => ?_⟩
            · rw [h.n] at t
              have nl : n ≠ Lm := fun z => t (by rw [z])
              exact at110 τ h rfl (by rw [if_neg nl]; omega)
            · rw [h.n] at t
              have nl : n = Lm := (nI_eq (by omega) (by omega)).mp t
              refine cost_call h.1 hm ⟨h.1.2.1.1, mad 6, h.1.2.1.2.2.2.2.2.2.1, 300, h.1.2.2.1.2.2.2.2.2.1, Lm - 1, ?_, ?_⟩ (by omega)
              · rw [show nI Lm - 1 = nI (Lm - 1) from pk_sub (b := 1) (by omega)]
                exact IXn (by omega) (by omega)
              · obtain ⟨x, x1, x2, x3⟩ := side (Lm - 1) (by omega)
                rw [x2]
                refine cost_call h.1 x1 ⟨fun u => ?_, fun u => ?_⟩ (by omega)
                · have : ¬ Lm - 1 < r := fun v => Int32.not_le.mpr u (x3.mpr v)
                  exact at110 τ h rfl (by rw [if_pos nl]; omega)
                · have : Lm - 1 < r := x3.mp (Int32.not_lt.mp u)
                  rw [nI_1]
                  refine ih τ n h ?_ ?_
                  · rw [ect]; omega
                  · exact hl.keep inj hm ng eG (by rw [hrr]; omega)
          · exact skipG (fun z => z.2 (Int32.not_le.mp y))
    refine main 0 (Nat.zero_le _) σ11 0 ML11 ?_ (fun i hi => absurd hi (Nat.not_lt_zero i))
    rw [ctp_none (fun x _ z => absurd z.2 (Nat.not_lt_zero x))]
    omega
  · have hA : aEnum S f b lm = (1, 0, S) := if_pos e
    rw [hA, e]
    rw [e] at g5
    exact ⟨fun z => absurd z (by decide), fun _ => ⟨⟨rfl, g5⟩, st⟩⟩
  · have hA : aEnum S f b lm = (2, 0, S) := (if_neg (by omega)).trans (if_pos e)
    rw [hA, e]
    rw [e] at g5
    exact ⟨fun z => absurd z (by decide), fun _ => ⟨⟨rfl, g5⟩, st⟩⟩
end MEN
