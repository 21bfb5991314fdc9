/-! ROWS: the class runs a program; so does the model. -/
theorem ck_ops : ∀ s, s < 14 → 1 ≤ s → nI (clsOp s) ≠ 8 ∧ nI (clsOp s) ≠ 9 ∧ nI (clsOp s) ≠ 10 := by decide +kernel
theorem okS_end {M h k : Nat} : okS M [] h k ↔ h = k := Iff.rfl
theorem exe_d2 {FM : Nat → Nat → Bool} {s k : Nat} {r : List Nat} {S : Nat → Nat → Bool} (h1 : s < 10) (hd : isDv s ∧ cntF (S (k + 1)) = 0) : exe FM (s :: r) (k + 2) S = none := exe_d (h := k + 2) h1 hd
theorem exe_b2 {FM : Nat → Nat → Bool} {s k : Nat} {r : List Nat} {S : Nat → Nat → Bool} (h1 : s < 10) (hd : ¬ (isDv s ∧ cntF (S (k + 1)) = 0)) : exe FM (s :: r) (k + 2) S = exe FM r (k + 1) (up S k (opF s (S k) (S (k + 1)))) := exe_b (h := k + 2) h1 hd
theorem exe_u2 {FM : Nat → Nat → Bool} {s k : Nat} {r : List Nat} {S : Nat → Nat → Bool} (h9 : s < 99) (h1 : 10 ≤ s) : exe FM (s :: r) (k + 1) S = exe FM r (k + 1) (up S k (opF s (S k) (S k))) := exe_u (h := k + 1) h9 h1
def CRes (X : Option (Nat → Nat → Bool)) (r : Option Nat) (τ : AH) : Prop := match X with
  | none => r = none
  | some S1 => ∃ t, r = some t ∧ hs τ t = some (23, 64) ∧ fam (gj τ t) = S1 0
def MRes (X : Option (Nat → Nat → Bool)) (wk : Nat) (r : Int32) (τ : AH) : Prop := match X with
  | none => r = 0
  | some S1 => r = 1 ∧ fam (sr (gj τ wk) 0) = S1 0
theorem crun_R {Γ : Gm} {d b : Nat} {σ : AH} {own : Nat → Nat} {al f1 f2 sp st ca ra rd kn vl fm n dp : Nat} {rel : Nat → Bool} {FM S0 : Nat → Nat → Bool} {pr : List Nat} (hb : b = lo Γ + hc σ) (I : CRI b σ own al f1 f2 sp st ca ra σ own dp 0 S0) (G : FamH b σ own fm (okf n rel) FM) (hn : n ≤ 200)
    (r0 : hs σ rd = some (5, 10)) (r1 : gr σ rd 0 = some kn) (r2 : gr σ rd 1 = some vl) (r3 : hs σ kn = some (22, 200)) (r4 : hs σ vl = some (22, 200)) (o1 : own rd = 11) (o2 : own kn = 12) (o3 : own vl = 13) (l1 : rd < b) (l2 : kn < b) (l3 : vl < b)
    (r5 : gi σ rd 2 = nI pr.length) (hl : pr.length ≤ 200) (r6 : ∀ j s, pr[j]? = some s → gi σ kn j = nI (ckS s) ∧ gi σ vl j = nI (cvS s)) (hok : okS 43 pr 0 1) (hst : ∀ s, s ∈ pr → okStep n rel s) (hd : 12 ≤ d) :
    RQ Γ d MX1_run [.ref ca, .ref rd, .ref fm, .ref al] σ (fun r τ => ∃ own' dp' h' S', CRI b σ own al f1 f2 sp st ca ra τ own' dp' h' S' ∧ CRes (exe FM pr 0 S0) r τ) := by
  have nrd : ¬ RP cW own b rd := RP_no o1 l1 (by unfold cW; omega)
  have nkn : ¬ RP cW own b kn := RP_no o2 l2 (by unfold cW; omega)
  have nvl : ¬ RP cW own b vl := RP_no o3 l3 (by unfold cW; omega)
  generalize hX : exe FM pr 0 S0 = X
  have L : ∀ rs pre τ own' h S, pr = pre ++ rs → CRI b σ own al f1 f2 sp st ca ra τ own' h h S → okS 43 rs h 1 → h ≤ 43 → exe FM rs h S = X → EV Γ MX1_run d 20 [some (.ref ca), some (.ref rd), some (.ref fm), some (.ref al), some (.int (nI pr.length)), some (.int (nI pre.length)), none, none] [] τ (fun oc τ' => ∃ r : Option Nat, oc = .inl (some (va_rf r)) ∧ ∃ own' dp' h' S', CRI b σ own al f1 f2 sp st ca ra τ' own' dp' h' S' ∧ CRes X r τ') := by
    intro rs
    induction rs with
    | nil =>
      intro pre τ own' h S hp J ho h43 hx
      have h1 : h = 1 := ho
      subst h1
      have hx : some S = X := hx
      rw [List.append_nil] at hp
      refine gX1_run_20 ⟨fun _ => ⟨J.2.1.1, ?_⟩, fun z => absurd (by rw [hp]; exact nI_le (Nat.le_refl _) (by rw [← hp]; omega)) z⟩
      refine CR.of (d2 := 1) (crow_R (k := 0) hb J (by omega) (by omega)) (by omega) (fun r σ2 hw q => ?_)
      obtain ⟨t, own2, rfl, J2, gt, -, -, e⟩ := q
      have e := e (by omega)
      subst e
      obtain ⟨u, u1, u2⟩ := J2.2.2.2.2.2.2.1 0 (by omega)
      rw [gt] at u1
      have u1 := Option.some.inj u1
      subst u1
      rw [← hx]
      exact ⟨t, rfl, some t, rfl, own2, 1, 1, S, J2, t, rfl, (J2.ne (by omega) gt).2.2.1, u2⟩
    | cons s rs ih =>
      intro pre τ own' h S hp J ho h43 hx
      have len : pre.length + (rs.length + 1) = pr.length := by rw [hp, List.length_append]; rfl
      have at' : pr[pre.length]? = some s := by rw [hp, List.getElem?_append_right (Nat.le_refl _), Nat.sub_self]; rfl
      have hs2 := hst s (List.mem_of_getElem? at')
      have sb : s < 2 ^ 30 := by
        rcases hs2 with z | z | z | ⟨f, z1, z2, z3⟩ <;> omega
      obtain ⟨k1, k2⟩ := r6 _ _ at'
      have F := J.2.2.1
      have nextp : pr = (pre ++ [s]) ++ rs := by rw [hp, List.append_assoc]; rfl
      have nexti : nI pre.length + 1 = nI (pre ++ [s]).length := by rw [nI_1, List.length_append]; rfl
      rw [okS_c] at ho
      refine gX1_run_20 ⟨fun z => absurd ((nI_leI (by omega) (by omega)).mp z) (by omega), fun _ => ⟨F.gh r0, kn, by rw [F.gr nrd]; exact r1, 200, F.gh r3, pre.length, IXn (by omega) (by omega), vl, by rw [F.gr nrd]; exact r2, 200, F.gh r4, pre.length, IXn (by omega) (by omega), ?_⟩⟩
      rw [F.gi nkn, F.gi nvl, k1, k2, nexti]
      rcases hs2 with z | z | z | ⟨f, z1, z2, z3⟩
      · rw [ck_op (by omega)]
        obtain ⟨n8, n9, n10⟩ := ck_ops s (by omega) z.1
        rw [if_neg (by omega)] at ho
        refine ⟨fun _ => ⟨fun _ => ⟨fun _ => ⟨J.2.1.1, ?_⟩, fun y => absurd y n10⟩, fun y => absurd y n9⟩, fun y => absurd y n8⟩
        rcases Nat.lt_or_ge s 10 with c | c
        · rw [if_neg (by omega)] at ho
          obtain ⟨k, rfl⟩ : ∃ k, h = k + 2 := ⟨h - 2, by omega⟩
          refine CI.of (d2 := 10) (capply2_R hb J h43 z.1 c (by omega)) (by omega) (fun r σ21 _ q => ?_)
          rcases q with ⟨q1, rfl, own2, J2⟩ | ⟨q1, rfl, own2, J2⟩
          · rw [exe_d2 c q1] at hx
            rw [← hx]
            exact ⟨fun y => absurd rfl y, fun _ => ⟨none, rfl, own2, _, _, _, J2, rfl⟩⟩
          · rw [exe_b2 c q1] at hx
            exact ⟨fun _ => ih _ _ own2 (k + 1) _ nextp J2 ho.2 (by omega) hx, fun y => absurd y (by decide)⟩
        · rw [if_pos c] at ho
          obtain ⟨k, rfl⟩ : ∃ k, h = k + 1 := ⟨h - 1, by omega⟩
          refine CI.of (d2 := 8) (capply1_R hb J h43 c z.2 (by omega)) (by omega) (fun r σ21 _ q => ?_)
          obtain ⟨rfl, own2, J2⟩ := q
          rw [exe_u2 (by omega) c] at hx
          exact ⟨fun _ => ih _ _ own2 (k + 1) _ nextp J2 ho.2 h43 hx, fun y => absurd y (by decide)⟩
      · subst z
        rw [if_pos (by omega)] at ho
        rw [exe_p (by omega)] at hx
        refine ⟨fun _ => ⟨fun y => absurd rfl y, fun _ => ⟨J.2.1.1, ?_⟩⟩, fun y => absurd y (by decide)⟩
        refine CR.of (d2 := 2) (cpush_R hb J ho.1 (by omega)) (by omega) (fun r σ28 _ q => ?_)
        obtain ⟨t, own2, rfl, J2, -, -⟩ := q
        exact ⟨t, rfl, ih _ _ own2 (h + 1) _ nextp J2 ho.2 (by omega) hx⟩
      · rw [if_pos (by omega)] at ho
        rw [exe_p (by omega)] at hx
        obtain ⟨m, rfl⟩ : ∃ m, s = 100 + m := ⟨s - 100, by omega⟩
        rw [ck_set (by omega), cv_set (by omega)]
        refine ⟨fun y => absurd rfl y, fun _ => ⟨J.2.1.1, ?_⟩⟩
        refine CR.of (d2 := 2) (cpush_R hb J ho.1 (by omega)) (by omega) (fun r σ31 _ q => ?_)
        obtain ⟨t, own2, rfl, J2, gt, gz⟩ := q
        refine ⟨t, rfl, CV.of (d2 := 0) (put_R (J2.ne (by omega) gt).2.2.1 (by omega) (by omega)) (by omega) (fun σ34 _ e => ?_)⟩
        have J3 := cpushSet_k J2 gt gz ho.1 (by omega) e
        have ep : pshF FM (100 + m) = sngF m := by
          unfold pshF
          rw [if_neg (by omega), if_pos (by omega), show 100 + m - 100 = m by omega]
        rw [ep] at hx
        exact ih _ _ own2 (h + 1) _ nextp J3 ho.2 (by omega) hx
      · rw [if_pos (by omega)] at ho
        rw [exe_p (by omega)] at hx
        subst z1
        rw [ck_fam, cv_fam]
        have okk : okf n rel f = true := by unfold okf; rw [decide_eq_true z2, z3]; rfl
        refine ⟨fun _ => ⟨fun _ => ⟨fun y => absurd rfl y, fun _ => ⟨J.2.1.1, ?_⟩⟩, fun y => absurd y (by decide)⟩, fun y => absurd y (by decide)⟩
        refine CV.of (d2 := 3) (cpushF_R hb J G ho.1 (by omega) okk (by omega)) (by omega) (fun σ25 _ q => ?_)
        obtain ⟨own2, J2⟩ := q
        have ep : pshF FM (10000 + f) = FM f := by
          unfold pshF
          rw [if_neg (by omega), if_neg (by omega), show 10000 + f - 10000 = f by omega]
        rw [ep] at hx
        exact ih _ _ own2 (h + 1) _ nextp J2 ho.2 (by omega) hx
  refine eX1_run ⟨I.2.1.1, fun σ2 e2 => ?_⟩
  have J2 := I.dep (dp' := 0) e2
  have F2 := J2.2.2.1
  refine ⟨F2.gh r0, by omega, ?_⟩
  have g2 : gi σ2 rd 2 = nI pr.length := by rw [F2.gi nrd]; exact r5
  rw [g2]
  have : (if (200 : Int32) < nI pr.length then 200 else nI pr.length) = nI pr.length := if_neg (fun z => by have := (nI_ltI (a := 200) (b := pr.length) (by omega) (by omega)).mp z; omega)
  rw [this]
  exact L pr [] σ2 own 0 S0 rfl J2 hok (by omega) hX
/-- the model -/
theorem mrun_R {Γ : Gm} {d : Nat} {σ : AH} {mo wk f1 f2 pg fa n : Nat} {rel : Nat → Bool} {FM S0 : Nat → Nat → Bool} {pr : List Nat} (A : MA σ mo wk f1 f2) (p0 : gr σ mo 22 = some pg) (p1 : hs σ pg = some (22, 200)) (p2 : gi σ mo 23 = nI pr.length) (hl : pr.length ≤ 200) (p3 : ∀ j s, pr[j]? = some s → gi σ pg j = nI s)
    (q0 : gr σ mo 9 = some fa) (q1 : hs σ fa = some (23, 12800)) (q2 : fa ≠ wk ∧ fa ≠ f1 ∧ fa ≠ f2) (q3 : ∀ f, okf n rel f = true → fam (sr (gj σ fa) f) = FM f) (hn : n ≤ 200) (hok : okS 43 pr 0 1) (hst : ∀ s, s ∈ pr → okStep n rel s) (hd : 8 ≤ d) :
    RI Γ d MX9_run [.ref mo] σ (fun r τ => Chg (fun _ => False) (mJ wk f1 f2) σ τ ∧ MRes (exe FM pr 0 S0) wk r τ) := by
  generalize hX : exe FM pr 0 S0 = X
  have L : ∀ rs pre τ h S, pr = pre ++ rs → Chg (fun _ => False) (mJ wk f1 f2) σ τ → (∀ k, k < h → fam (sr (gj τ wk) k) = S k) → okS 43 rs h 1 → h ≤ 43 → exe FM rs h S = X → EV Γ MX9_run d 4 [some (.ref mo), some (.int (nI h - 1)), some (.int (nI pre.length)), none] [] τ (fun oc τ' => ∃ r : Int32, oc = .inl (some (.int r)) ∧ Chg (fun _ => False) (mJ wk f1 f2) σ τ' ∧ MRes X wk r τ') := by
    intro rs
    induction rs with
    | nil =>
      intro pre τ h S hp c hS ho h43 hx
      have h1 : h = 1 := ho
      subst h1
      have hx : some S = X := hx
      rw [List.append_nil] at hp
      refine gX9_run_4 ⟨c.gh A.1, fun _ => ⟨1, rfl, c, ?_⟩, fun z => absurd (by rw [c.gi (fun z => z), p2, hp]; exact nI_le (Nat.le_refl _) (by rw [← hp]; omega)) z⟩
      rw [← hx]
      exact ⟨rfl, hS 0 (by omega)⟩
    | cons s rs ih =>
      intro pre τ h S hp c hS ho h43 hx
      have len : pre.length + (rs.length + 1) = pr.length := by rw [hp, List.length_append]; rfl
      have at' : pr[pre.length]? = some s := by rw [hp, List.getElem?_append_right (Nat.le_refl _), Nat.sub_self]; rfl
      have hs2 := hst s (List.mem_of_getElem? at')
      have sb : s < 2 ^ 30 := by
        rcases hs2 with z | z | z | ⟨f, z1, z2, z3⟩ <;> omega
      have k1 := p3 _ _ at'
      have nextp : pr = (pre ++ [s]) ++ rs := by rw [hp, List.append_assoc]; rfl
      have nexti : nI pre.length + 1 = nI (pre ++ [s]).length := by rw [nI_1, List.length_append]; rfl
      have At := A.chg c
      have At' := At
      obtain ⟨A0, A1, A2, A3, A4, A5, A6, n1, n2, n3⟩ := At'
      rw [okS_c] at ho
      refine gX9_run_4 ⟨A0, fun z => absurd (by rw [c.gi (fun z => z), p2] at z; exact (nI_leI (by omega) (by omega)).mp z) (by omega), fun _ => ⟨pg, c.gg p0, 200, c.gh p1, pre.length, IXn (by omega) (by omega), ?_⟩⟩
      rw [c.gi (fun z => z), k1, nexti]
      refine ⟨fun z99 => ?_, fun z99 => ?_⟩
      · have z99 := (nI_ltI (a := s) (b := 99) (by omega) (by omega)).mp z99
        have z : 1 ≤ s ∧ s ≤ 13 := by
          rcases hs2 with z | z | z | ⟨f, z1, z2, z3⟩ <;> omega
        rw [if_neg (by omega)] at ho
        refine ⟨fun z10 => ?_, fun z10 => ?_⟩
        · have z10 := (nI_ltI (a := s) (b := 10) (by omega) (by omega)).mp z10
          rw [if_neg (by omega)] at ho
          obtain ⟨k, rfl⟩ : ∃ k, h = k + 2 := ⟨h - 2, by omega⟩
          have e1 : nI (k + 2) - 1 + (-1) = nI k := by
            rw [show k + 2 = (k + 1) + 1 from rfl, nI_pred]; exact pk_m1 k
          rw [e1]
          have h122 : ¬ (isDv s ∧ cntF (S (k + 1)) = 0) → EV Γ MX9_run d 122 [some (.ref mo), some (.int (nI k)), some (.int (nI pre.length)), some (.int (nI s))] [] τ (fun oc τ' => ∃ r : Int32, oc = .inl (some (.int r)) ∧ Chg (fun _ => False) (mJ wk f1 f2) σ τ' ∧ MRes X wk r τ') := by
            intro nd
            refine gX9_run_122 ⟨A0, ?_⟩
            rw [nI_1, nexti]
            refine CV.of (d2 := 7) (operate_R At (by omega) (by omega) ⟨z.1, z.2⟩ (by omega)) (by omega) (fun τ2 _ q => ?_)
            rw [exe_b2 z10 nd] at hx
            have e0 : nI k = nI (k + 1) - 1 := (nI_pred k).symm
            rw [e0]
            refine ih _ _ (k + 1) _ nextp (c.trans q.1) (fun j hj => ?_) ho.2 (by omega) hx
            by_cases jk : j = k
            · subst jk
              show _ = up S j _ j
              rw [up_same, ← hS j (by omega), ← hS (j + 1) (by omega)]
              exact opF_M q.2.2
            · show _ = up S k _ j
              rw [up_ne _ _ jk, ← hS j (by omega)]
              refine fam_ext (fam_sup _) (fun m hm => ?_)
              rw [fam_lt _ hm]
              exact bs_congr (fun w hw => q.2.1 _ (by omega) (by omega)) hm
          have h107 : isDv s → EV Γ MX9_run d 107 [some (.ref mo), some (.int (nI k)), some (.int (nI pre.length)), some (.int (nI s))] [] τ (fun oc τ' => ∃ r : Int32, oc = .inl (some (.int r)) ∧ Chg (fun _ => False) (mJ wk f1 f2) σ τ' ∧ MRes X wk r τ') := by
            intro dv
            refine gX9_run_107 ⟨A0, wk, A3, ?_⟩
            rw [nI_1]
            refine CI.of (d2 := 1) (many_R A6 (by omega) (by omega) (by omega)) (by omega) (fun r σ4 _ q => ?_)
            obtain ⟨rfl, rfl⟩ := q
            rw [rct_fam, hS (k + 1) (by omega)]
            have le := cntF_le (S (k + 1))
            refine ⟨fun y => h122 (fun w => y (by rw [w.2]; rfl)), fun y => ?_⟩
            have y := (nI_eq (a := cntF (S (k + 1))) (b := 0) (by omega) (by omega)).mp y
            rw [exe_d2 z10 ⟨dv, y⟩] at hx
            rw [← hx]
            exact ⟨0, rfl, c, rfl⟩
          refine ⟨fun y => h107 (Or.inl ((nI_eq (a := s) (b := 5) (by omega) (by omega)).mp y)), fun y => ⟨fun w => h122 (fun v => ?_), fun w => h107 (Or.inr ((nI_eq (a := s) (b := 6) (by omega) (by omega)).mp w))⟩⟩
          rcases v.1 with v | v
          · exact y (by rw [v]; rfl)
          · exact w (by rw [v]; rfl)
        · have z10 : 10 ≤ s := by
            rcases Nat.lt_or_ge s 10 with y | y
            · exact absurd ((nI_ltI (a := s) (b := 10) (by omega) (by omega)).mpr y) z10
            · exact y
          rw [if_pos z10] at ho
          obtain ⟨k, rfl⟩ : ∃ k, h = k + 1 := ⟨h - 1, by omega⟩
          rw [nI_pred]
          refine CV.of (d2 := 7) (operate_R At (by omega) (by omega) ⟨z.1, z.2⟩ (by omega)) (by omega) (fun τ2 _ q => ?_)
          rw [exe_u2 (by omega) z10] at hx
          have e0 : nI k = nI (k + 1) - 1 := (nI_pred k).symm
          rw [e0]
          refine ih _ _ (k + 1) _ nextp (c.trans q.1) (fun j hj => ?_) ho.2 (by omega) hx
          by_cases jk : j = k
          · subst jk
            show _ = up S j _ j
            rw [up_same, ← hS j (by omega)]
            exact opF_M q.2.2
          · show _ = up S k _ j
            rw [up_ne _ _ jk, ← hS j (by omega)]
            refine fam_ext (fam_sup _) (fun m hm => ?_)
            rw [fam_lt _ hm]
            exact bs_congr (fun w hw => q.2.1 _ (by omega) (by omega)) hm
      · have z99 : 99 ≤ s := by
          rcases Nat.lt_or_ge s 99 with y | y
          · exact absurd ((nI_ltI (a := s) (b := 99) (by omega) (by omega)).mpr y) z99
          · exact y
        rw [if_pos z99] at ho
        rw [exe_p z99] at hx
        have e1 : nI h - 1 + 1 = nI h := by
          rw [Int32.sub_add_cancel]
        have e2 : nI h = nI (h + 1) - 1 := (nI_pred h).symm
        rw [e1]
        refine ⟨wk, A3, CV.of (d2 := 0) (clear_R A6 (by omega) (by omega)) (by omega) (fun τ2 _ q => ?_)⟩
        obtain ⟨g, e, bk, gz⟩ := q
        have c2 : Chg (fun _ => False) (mJ wk f1 f2) τ τ2 := by rw [e]; exact Chg.rowJ _ _ (Or.inl rfl)
        have A2' := At.chg c2
        have gw : gj τ2 wk = g := by rw [e, gj_row]
        have hS2 : ∀ k, k < h → fam (sr g k) = S k := fun k hk => by
          rw [← hS k hk]
          refine fam_ext (fam_sup _) (fun m hm => ?_)
          rw [fam_lt _ hm]
          exact blk_bs bk (by omega) hm
        -- go on with row h as wanted
        have go : ∀ τ3, Chg (fun _ => False) (mJ wk f1 f2) τ2 τ3 → blk h g (gj τ3 wk) → fam (sr (gj τ3 wk) h) = pshF FM s → EV Γ MX9_run d 4 [some (.ref mo), some (.int (nI h)), some (.int (nI (pre ++ [s]).length)), none] [] τ3 (fun oc τ' => ∃ r : Int32, oc = .inl (some (.int r)) ∧ Chg (fun _ => False) (mJ wk f1 f2) σ τ' ∧ MRes X wk r τ') := by
          intro τ3 c3 b3 f3
          rw [e2]
          refine ih _ _ (h + 1) _ nextp ((c.trans c2).trans c3) (fun j hj => ?_) ho.2 (by omega) hx
          by_cases jk : j = h
          · rw [jk, up_same]; exact f3
          · rw [up_ne _ _ jk, ← hS2 j (by omega)]
            refine fam_ext (fam_sup _) (fun m hm => ?_)
            rw [fam_lt _ hm]
            exact blk_bs b3 (by omega) hm
        refine ⟨fun y4 => ⟨fun y => ?_, fun y => ⟨c2.gh A0, wk, c2.gg A3, ?_⟩⟩, fun y4 => ⟨c2.gh A0, ?_⟩⟩
        · have y := (nI_ltI (a := s) (b := 100) (by omega) (by omega)).mp y
          refine go τ2 (Chg.refl _ _ _) (by rw [gw]; exact blk_refl _ _) ?_
          rw [gw]
          unfold pshF
          rw [if_pos (by omega)]
          refine fam_ext sup_zf (fun m hm => ?_)
          show wb (sr g h (m / 64)) (m % 64) = false
          rw [gz _ (by omega)]; exact w_zero _
        · have y4 := (nI_ltI (a := s) (b := 10000) (by omega) (by omega)).mp y4
          have y : 100 ≤ s := by
            rcases Nat.lt_or_ge s 100 with w | w
            · exact absurd ((nI_ltI (a := s) (b := 100) (by omega) (by omega)).mpr w) y
            · exact w
          have s4 : s - 100 < 4096 := by
            rcases hs2 with z | z | z | ⟨f, z1, z2, z3⟩ <;> omega
          rw [show nI s - 100 = nI (s - 100) from pk_sub (b := 100) (by omega)]
          refine CV.of (d2 := 0) (mput_R A2'.2.2.2.2.2.2.1 (by omega) (by omega) s4) (by omega) (fun τ3 _ q => ?_)
          obtain ⟨g3, e3, b3, f3⟩ := q
          rw [gw] at b3 f3
          refine go τ3 (by rw [e3]; exact Chg.rowJ _ _ (Or.inl rfl)) (by rw [e3, gj_row]; exact b3) ?_
          rw [e3, gj_row]
          unfold pshF
          rw [if_neg (by omega), if_pos (by omega)]
          refine fam_ext (sngF_sup s4) (fun m hm => ?_)
          rw [f3 m hm]
          show (wb (sr g h (m / 64)) (m % 64) || decide (m = s - 100)) = decide (m = s - 100)
          rw [gz _ (by omega), w_zero, Bool.false_or]
        · have y4 : 10000 ≤ s := by
            rcases Nat.lt_or_ge s 10000 with w | w
            · exact absurd ((nI_ltI (a := s) (b := 10000) (by omega) (by omega)).mpr w) y4
            · exact w
          obtain ⟨f, z1, z2, z3⟩ : ∃ f, s = 10000 + f ∧ f < n ∧ rel f = false := by
            rcases hs2 with z | z | z | z
            · omega
            · omega
            · omega
            · exact z
          have okk : okf n rel f = true := by unfold okf; rw [decide_eq_true z2, z3]; rfl
          rw [show nI s - 10000 = nI (s - 10000) from pk_sub (b := 10000) (by omega), show s - 10000 = f by omega]
          refine CV.of (d2 := 2) (load_R (N := 12800) (M := 7040) A2'.1 A2'.2.2.2.1 (c2.gg (c.gg q0)) (c2.gh (c.gh q1)) A2'.2.2.2.2.2.2.1 q2.1 (by omega) (by omega) (by omega) (by omega)) (by omega) (fun τ3 _ q => ?_)
          obtain ⟨g3, e3, b3, f3⟩ := q
          rw [gw] at b3
          refine go τ3 (by rw [e3]; exact Chg.rowJ _ _ (Or.inl rfl)) (by rw [e3, gj_row]; exact b3) ?_
          have nJf : ¬ mJ wk f1 f2 fa := fun z => z.elim q2.1 (fun z => z.elim q2.2.1 q2.2.2)
          rw [c2.gj nJf, c.gj nJf] at f3
          have ep : pshF FM s = FM f := by
            rw [z1]
            unfold pshF
            rw [if_neg (by omega), if_neg (by omega), show 10000 + f - 10000 = f by omega]
          rw [ep, ← q3 f okk, e3, gj_row]
          refine fam_ext (fam_sup _) (fun m hm => ?_)
          rw [fam_lt _ hm]
          exact bs_congr f3 hm
  refine eX9_run ?_
  have := L pr [] σ 0 S0 rfl (Chg.refl _ _ _) (fun k hk => absurd hk (by omega)) hok (by omega) hX
  exact this
