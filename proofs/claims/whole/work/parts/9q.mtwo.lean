/-! ROWS of the model: operations on families there. -/
def fcd2 (S : StT) (f g : Int32) : Nat := if fcd S f = 1 ∨ fcd S g = 1 then 1 else if fcd S f = 2 ∨ fcd S g = 2 then 2 else 0
section MTW
variable {Γ : Gm} {d : Nat} {σ : AH} {own mad : Nat → Nat} {S : StT} {c : Nat}
theorem mlook2_call {f g : Int32} {K : Int32 → AH → Prop} {KX : String → AH → Prop} (R : RepM Γ σ own mad S c) (k : K (nI (fcd2 S f g)) σ) (hd : 3 ≤ d) : CI Γ d MX9_look__ [.ref (mad 0), .int f, .int g] σ K KX := by
  refine CI.of (d2 := 2) (P := fun r σ' => r = nI (fcd2 S f g) ∧ σ' = σ) ?_ (by omega) (fun r σ1 _ q => ?_)
  · refine eX9_look__ ⟨R.2.1.1, mlook_call R ⟨R.2.1.1, mlook_call R ?_ (by omega)⟩ (by omega)⟩
    unfold fcd2
    rcases fcd_le S f with e | e | e <;> rcases fcd_le S g with e' | e' | e' <;> rw [e, e']
    · exact ⟨fun z => absurd z (by decide), fun _ => ⟨fun _ => ⟨by omega, _, rfl, by decide, rfl⟩, fun z => absurd z (by decide)⟩⟩
    · exact ⟨fun z => absurd z (by decide), fun _ => ⟨fun z => absurd rfl z, fun _ => ⟨_, rfl, by decide, rfl⟩⟩⟩
    · exact ⟨fun z => absurd z (by decide), fun _ => ⟨fun _ => ⟨by omega, _, rfl, by decide, rfl⟩, fun z => absurd z (by decide)⟩⟩
    · exact ⟨fun _ => ⟨_, rfl, by decide, rfl⟩, fun z => absurd rfl z⟩
    · exact ⟨fun _ => ⟨_, rfl, by decide, rfl⟩, fun z => absurd rfl z⟩
    · exact ⟨fun _ => ⟨_, rfl, by decide, rfl⟩, fun z => absurd rfl z⟩
    · exact ⟨fun z => absurd z (by decide), fun _ => ⟨fun _ => ⟨by omega, _, rfl, by decide, rfl⟩, fun z => absurd z (by decide)⟩⟩
    · exact ⟨fun z => absurd z (by decide), fun _ => ⟨fun z => absurd rfl z, fun _ => ⟨_, rfl, by decide, rfl⟩⟩⟩
    · exact ⟨fun z => absurd z (by decide), fun _ => ⟨fun _ => ⟨by omega, _, rfl, by decide, rfl⟩, fun z => absurd z (by decide)⟩⟩
  · obtain ⟨q1, q2⟩ := q
    subst q2
    rw [q1]; exact k
theorem fcd2_le (S : StT) (f g : Int32) : fcd2 S f g = 0 ∨ fcd2 S f g = 1 ∨ fcd2 S f g = 2 := by
  unfold fcd2
  split
  · exact Or.inr (Or.inl rfl)
  · split
    · exact Or.inr (Or.inr rfl)
    · exact Or.inl rfl
theorem fcd2_0 {f g : Int32} (h : fcd2 S f g = 0) : fcd S f = 0 ∧ fcd S g = 0 := by
  unfold fcd2 at h
  split at h
  · omega
  · split at h
    · omega
    · have := fcd_le S f
      have := fcd_le S g
      omega
theorem aQ2_c {f g : Int32} {v : (Nat → Bool) → (Nat → Bool) → Int32} {k : Nat} (h : fcd2 S f g = k) (hk : k ≠ 0) : aQ2 S f g v = (k, 0, S) := by
  unfold fcd2 at h
  unfold aQ2
  split at h
  · rename_i y
    rw [if_pos y, ← h]
  · rename_i y
    rw [if_neg y]
    split at h
    · rename_i z
      rw [if_pos z, ← h]
    · omega
theorem aTwo_c {f g : Int32} {o k : Nat} (h : fcd2 S f g = k) (hk : k ≠ 0) : aTwo o S f g = (k, 0, S) := by
  unfold fcd2 at h
  unfold aTwo
  split at h
  · rename_i y
    rw [if_pos y, ← h]
  · rename_i y
    rw [if_neg y]
    split at h
    · rename_i z
      rw [if_pos z, ← h]
    · omega
/-- a family put into a row in work -/
theorem mload_call {τ : AH} {f : Int32} {u : Nat} {K : AH → Prop} {KX : String → AH → Prop} (R : RepM Γ τ own mad S c) (e : fcd S f = 0) (hu : u < 108) (k : ∀ τ', WF Γ τ' → Chg (fun _ => False) (mJ (mad 9) (mad 7) (mad 8)) τ τ' → (∀ v, v ≠ u → fam (sr (gj τ' (mad 9)) v) = fam (sr (gj τ (mad 9)) v)) → fam (sr (gj τ' (mad 9)) u) = sF S (ixF f) → K τ') (hd : 1 ≤ d) : CV Γ d MX9_load [.ref (mad 0), .int f, .int (nI u)] τ K KX := by
  have n2 := R.n.2
  obtain ⟨e1, e2, e3⟩ := fcd_0 n2 e
  have ex : [Value.ref (mad 0), Value.int f, Value.int (nI u)] = [Value.ref (mad 0), Value.int (nI (ixF f)), Value.int (nI u)] := by rw [← e1]
  rw [ex]
  refine CV.of (d2 := 0) (load_R (N := 12800) (M := 7040) R.2.1.1 R.2.1.2.2.2.2.2.2.2.2.2.1 R.2.1.2.2.2.2.1 R.2.2.1.2.2.2.1 R.2.2.1.2.2.2.2.2.2.2.2.1 (R.ne (by omega) (by omega) (by omega)) (by omega) (by omega) (by omega) (by omega)) (by omega) (fun σ1 W1 q => ?_)
  obtain ⟨ff, q1, q2, q3⟩ := q
  refine k σ1 W1 (by rw [q1]; exact Chg.rowJ _ _ (Or.inl rfl)) (fun v hv' => ?_) ?_
  · rw [q1, gj_row]
    exact fam_ext (fam_sup _) (fun m hm => by rw [fam_lt _ hm]; exact blk_bs q2 hv' hm)
  · rw [q1, gj_row, ← R.2.2.2.2.1.2.2.2.2.2 _ e3]
    exact fam_ext (fam_sup _) (fun m hm => by rw [fam_lt _ hm]; exact bs_congr q3 hm)
theorem mop_call {τ : AH} {F : Nat → Bool} {o b : Nat} {K : AH → Prop} {KX : String → AH → Prop} (h : MK Γ σ own mad S c τ F) (hb : b < 108) (ho : 1 ≤ o ∧ o ≤ 13) (k : ∀ τ', WF Γ τ' → MK Γ σ own mad S c τ' (opF o F (fam (sr (gj τ (mad 9)) b))) → K τ') (hd : 8 ≤ d) : CV Γ d MX9_operate [.ref (mad 0), .int (nI o), .int 0, .int (nI b)] τ K KX := by
  refine CV.of (d2 := 7) (operate_R (a := 0) h.1.ma (by omega) hb ho (by omega)) (by omega) (fun σ1 W1 q => ?_)
  obtain ⟨q1, q2, q3⟩ := q
  have h1 := h.step q1
  rw [opF_M q3, h.2.2.2.2.2] at h1
  exact k σ1 W1 h1
theorem mtwo_C {o : Nat} {f g : Int32} (R : RepM Γ σ own mad S c) (h1 : 1 ≤ o) (h9 : o ≤ 9) (hd : 9 ≤ d) : CMN Γ d MX9_two [.ref (mad 0), .int (nI o), .int f, .int g] σ own mad c (aTwo o S f g) := by
  refine RUN.wf (fun W => eX9_two ⟨R.2.1.1, mlook2_call R ⟨R.2.1.1, fun σ5 e5 => ?_⟩ (by omega)⟩)
  obtain ⟨R5, F5, g5, st, W5⟩ := mq_code R W e5
  have c5 : hc σ5 = hc σ := by rw [e5]; rfl
  have v5 : hv σ5 = hv σ := by rw [e5]; rfl
  rw [g5]
  have n2 := R.n.2
  have bad : ∀ k, fcd2 S f g = k → k ≠ 0 → k ≤ 2 → ansM (aTwo o S f g) (mad 0) (.inl (some (.int 0))) σ5 ∧ StepM Γ σ own mad c (aTwo o S f g).2.2 σ5 := by
    intro k e hk hk2
    rw [aTwo_c e hk]
    rw [e] at g5
    exact ⟨⟨rfl, g5⟩, st⟩
  rcases fcd2_le S f g with e | e | e
  · obtain ⟨ef, eg⟩ := fcd2_0 e
    rw [e]
    rw [e] at g5
    refine ⟨fun _ => ⟨fun z => ?_, fun z => ?_⟩, fun z => absurd rfl z⟩
    · have hn : sN S < 200 := by have : sN S ≠ 200 := fun t => z (R5.full.mpr t); omega
      have pre : aTwo o S f g = if bd (isDv o ∧ cntF (sF S (ixF g)) = 0) = true then (4, 0, S) else (0, nI (sN S), stA S (opF o (sF S (ixF f)) (sF S (ixF g)))) := (if_neg (by omega)).trans ((if_neg (by omega)).trans (if_neg (by omega)))
      refine mload_call (u := 0) R5 ef (by omega) (fun τ1 W1 C1 k1 k1' => ?_) (by omega)
      have K1 := R5.wk2 F5 c5 v5 g5 C1
      refine ⟨K1.1.2.1.1, mload_call (u := 1) K1.1 eg (by omega) (fun τ2 W2 C2 k2 k2' => ?_) (by omega)⟩
      have K2 := K1.step C2
      rw [k2 0 (by omega), k1'] at K2
      have s75 : ¬ (isDv o ∧ cntF (sF S (ixF g)) = 0) → EV Γ MX9_two d 75 [some (.ref (mad 0)), some (.int (nI o)), none, none] [] τ2 (fun oc σ' => ansM (aTwo o S f g) (mad 0) oc σ' ∧ StepM Γ σ own mad c (aTwo o S f g).2.2 σ') := fun nd => by
        refine gX9_two_75 ⟨K2.1.2.1.1, mop_call (b := 1) K2 (by omega) ⟨h1, by omega⟩ (fun τ3 W3 K3 => ⟨K3.1.2.1.1, ?_⟩) (by omega)⟩
        rw [k2'] at K3
        exact K3.ans hn (pre.trans (if_neg (by rw [bd_false.mpr nd]; decide))) (by omega)
      have s58 : isDv o → EV Γ MX9_two d 58 [some (.ref (mad 0)), some (.int (nI o)), none, none] [] τ2 (fun oc σ' => ansM (aTwo o S f g) (mad 0) oc σ' ∧ StepM Γ σ own mad c (aTwo o S f g).2.2 σ') := fun dv => by
        have le := cntF_le (sF S (ixF g))
        refine gX9_two_58 ⟨K2.1.2.1.1, mad 9, K2.1.2.1.2.2.2.2.2.2.2.2.2.1, CI.of (d2 := 1) (many_R (t := 1) (N := 7040) K2.1.2.2.1.2.2.2.2.2.2.2.2.1 (by omega) (by omega) (by omega)) (by omega) (fun r τ3 W3 q => ?_)⟩
        obtain ⟨q1, q2⟩ := q
        subst q1
        rw [rct_fam, k2'] at q2
        rw [q2]
        refine ⟨fun z => s75 (fun y => z (by rw [y.2]; rfl)), fun z => ⟨K2.1.2.1.1, ?_⟩⟩
        have z0 := (nI_eq (b := 0) (by omega) (by omega)).mp z
        exact mfail_any (k := 4) K2.1 K2.2.1 K2.2.2.1 K2.2.2.2.1 (pre.trans (if_pos (bd_true.mpr ⟨dv, z0⟩))) (by omega)
      refine ⟨fun z => s58 (Or.inl ((nI_eq (b := 5) (by omega) (by omega)).mp z)), fun z => ⟨fun y => s75 (fun t => ?_), fun y => s58 (Or.inr ((nI_eq (b := 6) (by omega) (by omega)).mp y))⟩⟩
      rcases t.1 with u | u
      · exact z (by rw [u]; rfl)
      · exact y (by rw [u]; rfl)
    · exact mfail_any (k := 3) R5 F5 c5 v5 ((if_neg (by omega)).trans ((if_neg (by omega)).trans (if_pos (R5.full.mp z)))) (by omega)
  · have b := bad 1 e (by omega) (by omega)
    rw [e]
    exact ⟨fun z => absurd z (by decide), fun _ => b⟩
  · have b := bad 2 e (by omega) (by omega)
    rw [e]
    exact ⟨fun z => absurd z (by decide), fun _ => b⟩
theorem mone_C {o : Nat} {f : Int32} (R : RepM Γ σ own mad S c) (h1 : 10 ≤ o) (h9 : o ≤ 13) (hd : 9 ≤ d) : CMN Γ d MX9_one [.ref (mad 0), .int (nI o), .int f] σ own mad c (aOne o S f) := by
  refine RUN.wf (fun W => eX9_one ⟨R.2.1.1, mlook_call R ⟨R.2.1.1, fun σ5 e5 => ?_⟩ (by omega)⟩)
  obtain ⟨R5, F5, g5, st, W5⟩ := mq_code R W e5
  have c5 : hc σ5 = hc σ := by rw [e5]; rfl
  have v5 : hv σ5 = hv σ := by rw [e5]; rfl
  rw [g5]
  have n2 := R.n.2
  rcases fcd_le S f with e | e | e
  · rw [e]
    rw [e] at g5
    refine ⟨fun _ => ⟨fun z => ?_, fun z => ?_⟩, fun z => absurd rfl z⟩
    · have hn : sN S < 200 := by have : sN S ≠ 200 := fun t => z (R5.full.mpr t); omega
      have hA : aOne o S f = (0, nI (sN S), stA S (opF o (sF S (ixF f)) (sF S (ixF f)))) := (if_neg (by omega)).trans ((if_neg (by omega)).trans (if_neg (by omega)))
      refine mload_call (u := 0) R5 e (by omega) (fun τ1 W1 C1 k1 k1' => ?_) (by omega)
      have K1 := R5.wk2 F5 c5 v5 g5 C1
      rw [k1'] at K1
      refine ⟨K1.1.2.1.1, mop_call (b := 0) K1 (by omega) ⟨by omega, by omega⟩ (fun τ3 W3 K3 => ⟨K3.1.2.1.1, ?_⟩) (by omega)⟩
      rw [k1'] at K3
      exact K3.ans hn hA (by omega)
    · exact mfail_any (k := 3) R5 F5 c5 v5 ((if_neg (by omega)).trans ((if_neg (by omega)).trans (if_pos (R5.full.mp z)))) (by omega)
  · have hA : aOne o S f = (1, 0, S) := if_pos e
    rw [hA, e]
    rw [e] at g5
    exact ⟨fun z => absurd z (by decide), fun _ => ⟨⟨rfl, g5⟩, st⟩⟩
  · have hA : aOne o S f = (2, 0, S) := (if_neg (by omega)).trans (if_pos e)
    rw [hA, e]
    rw [e] at g5
    exact ⟨fun z => absurd z (by decide), fun _ => ⟨⟨rfl, g5⟩, st⟩⟩
theorem mwrap {M : MI} {vs : List Value} {A : AnsT} (h : CMN Γ 9 M vs σ own mad c A) (hd : 10 ≤ d) : CI Γ d M vs σ (fun r2 σ1 => ansM A (mad 0) (.inl (some (.int r2))) σ1 ∧ StepM Γ σ own mad c A.2.2 σ1) (fun E σ1 => ansM A (mad 0) (.inr E) σ1 ∧ StepM Γ σ own mad c A.2.2 σ1) := by
  refine CALL.mono h (by omega) (fun v σ1 _ q => ?_) (fun E σ1 _ q => q)
  have q1 := q.1.1
  exact ⟨A.2.1, Sum.inl.inj q1, ⟨rfl, q.1.2⟩, q.2⟩
theorem munion_C {f g : Int32} (R : RepM Γ σ own mad S c) (hd : 10 ≤ d) : CMN Γ d MX9_union [.ref (mad 0), .int f, .int g] σ own mad c (aTwo 1 S f g) := eX9_union ⟨R.2.1.1, mwrap (mtwo_C (o := 1) (f := f) (g := g) R (by omega) (by omega) (Nat.le_refl 9)) hd⟩
theorem mdifference_C {f g : Int32} (R : RepM Γ σ own mad S c) (hd : 10 ≤ d) : CMN Γ d MX9_difference [.ref (mad 0), .int f, .int g] σ own mad c (aTwo 2 S f g) := eX9_difference ⟨R.2.1.1, mwrap (mtwo_C (o := 2) (f := f) (g := g) R (by omega) (by omega) (Nat.le_refl 9)) hd⟩
theorem mintersection_C {f g : Int32} (R : RepM Γ σ own mad S c) (hd : 10 ≤ d) : CMN Γ d MX9_intersection [.ref (mad 0), .int f, .int g] σ own mad c (aTwo 3 S f g) := eX9_intersection ⟨R.2.1.1, mwrap (mtwo_C (o := 3) (f := f) (g := g) R (by omega) (by omega) (Nat.le_refl 9)) hd⟩
theorem mjoin_C {f g : Int32} (R : RepM Γ σ own mad S c) (hd : 10 ≤ d) : CMN Γ d MX9_join [.ref (mad 0), .int f, .int g] σ own mad c (aTwo 4 S f g) := eX9_join ⟨R.2.1.1, mwrap (mtwo_C (o := 4) (f := f) (g := g) R (by omega) (by omega) (Nat.le_refl 9)) hd⟩
theorem mquotient_C {f g : Int32} (R : RepM Γ σ own mad S c) (hd : 10 ≤ d) : CMN Γ d MX9_quotient [.ref (mad 0), .int f, .int g] σ own mad c (aTwo 5 S f g) := eX9_quotient ⟨R.2.1.1, mwrap (mtwo_C (o := 5) (f := f) (g := g) R (by omega) (by omega) (Nat.le_refl 9)) hd⟩
theorem mremainder_C {f g : Int32} (R : RepM Γ σ own mad S c) (hd : 10 ≤ d) : CMN Γ d MX9_remainder [.ref (mad 0), .int f, .int g] σ own mad c (aTwo 6 S f g) := eX9_remainder ⟨R.2.1.1, mwrap (mtwo_C (o := 6) (f := f) (g := g) R (by omega) (by omega) (Nat.le_refl 9)) hd⟩
theorem mmeet_C {f g : Int32} (R : RepM Γ σ own mad S c) (hd : 10 ≤ d) : CMN Γ d MX9_meet [.ref (mad 0), .int f, .int g] σ own mad c (aTwo 7 S f g) := eX9_meet ⟨R.2.1.1, mwrap (mtwo_C (o := 7) (f := f) (g := g) R (by omega) (by omega) (Nat.le_refl 9)) hd⟩
theorem msupersets_C {f g : Int32} (R : RepM Γ σ own mad S c) (hd : 10 ≤ d) : CMN Γ d MX9_supersets [.ref (mad 0), .int f, .int g] σ own mad c (aTwo 8 S f g) := eX9_supersets ⟨R.2.1.1, mwrap (mtwo_C (o := 8) (f := f) (g := g) R (by omega) (by omega) (Nat.le_refl 9)) hd⟩
theorem msubsets_C {f g : Int32} (R : RepM Γ σ own mad S c) (hd : 10 ≤ d) : CMN Γ d MX9_subsets [.ref (mad 0), .int f, .int g] σ own mad c (aTwo 9 S f g) := eX9_subsets ⟨R.2.1.1, mwrap (mtwo_C (o := 9) (f := f) (g := g) R (by omega) (by omega) (Nat.le_refl 9)) hd⟩
theorem mmaximal_C {f : Int32} (R : RepM Γ σ own mad S c) (hd : 10 ≤ d) : CMN Γ d MX9_maximal [.ref (mad 0), .int f] σ own mad c (aOne 10 S f) := eX9_maximal ⟨R.2.1.1, mwrap (mone_C (o := 10) (f := f) R (by omega) (by omega) (Nat.le_refl 9)) hd⟩
theorem mminimal_C {f : Int32} (R : RepM Γ σ own mad S c) (hd : 10 ≤ d) : CMN Γ d MX9_minimal [.ref (mad 0), .int f] σ own mad c (aOne 11 S f) := eX9_minimal ⟨R.2.1.1, mwrap (mone_C (o := 11) (f := f) R (by omega) (by omega) (Nat.le_refl 9)) hd⟩
theorem mhitting_C {f : Int32} (R : RepM Γ σ own mad S c) (hd : 10 ≤ d) : CMN Γ d MX9_hitting [.ref (mad 0), .int f] σ own mad c (aOne 12 S f) := eX9_hitting ⟨R.2.1.1, mwrap (mone_C (o := 12) (f := f) R (by omega) (by omega) (Nat.le_refl 9)) hd⟩
theorem mclosure_C {f : Int32} (R : RepM Γ σ own mad S c) (hd : 10 ≤ d) : CMN Γ d MX9_closure [.ref (mad 0), .int f] σ own mad c (aOne 13 S f) := eX9_closure ⟨R.2.1.1, mwrap (mone_C (o := 13) (f := f) R (by omega) (by omega) (Nat.le_refl 9)) hd⟩
end MTW
