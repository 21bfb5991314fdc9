/-! ROWS of FamilyStore: the cheapest sets; the digest. -/
/-! an order told by whole numbers -/
noncomputable def rkG (G : Nat → Prop) (κ : Nat → Int) (x : Nat) : Nat := ctp (fun y => G y ∧ κ y < κ x) 4096
theorem ctp_sub {P Q : Nat → Prop} {n : Nat} (h : ∀ x, x < n → P x → Q x) : ctp P n ≤ ctp Q n := fb_ct_sub (fun k hk hp => bd_true.mpr (h k hk (bd_true.mp hp)))
theorem ctp_lt {P Q : Nat → Prop} {n x : Nat} (h : ∀ y, y < n → P y → Q y) (hx : x < n) (hq : Q x) (hp : ¬ P x) : ctp P n < ctp Q n := by
  have e := ctp_or (P := P) (Q := fun y => y = x) (n := n) (fun y _ z => hp (by rw [← z.2]; exact z.1))
  have e1 := ctp_one (P := fun y => y = x) hx (fun y _ => Iff.rfl)
  have l := ctp_sub (P := fun y => P y ∨ y = x) (Q := Q) (n := n) (fun y hy z => z.elim (h y hy) (fun z => by rw [z]; exact hq))
  omega
section RK
variable {G : Nat → Prop} {κ : Nat → Int}
theorem rk_lt {x y : Nat} (hx : x < 4096) (hg : G x) (h : κ x < κ y) : rkG G κ x < rkG G κ y :=
  ctp_lt (x := x) (fun z _ q => ⟨q.1, by omega⟩) hx ⟨hg, h⟩ (fun z => by omega)
theorem rk_inj (inj : ∀ x y, x < 4096 → y < 4096 → κ x = κ y → x = y) {x y : Nat} (hx : x < 4096) (hy : y < 4096) (gx : G x) (gy : G y) (h : rkG G κ x = rkG G κ y) : x = y := by
  refine inj x y hx hy ?_
  rcases Int.lt_trichotomy (κ x) (κ y) with c | c | c
  · have := rk_lt (G := G) hx gx c
    omega
  · exact c
  · have := rk_lt (G := G) hy gy c
    omega
theorem rk_bnd (inj : ∀ x y, x < 4096 → y < 4096 → κ x = κ y → x = y) (i : Nat) : ctp (fun y => G y ∧ rkG G κ y < i) 4096 ≤ i :=
  Nat.le_trans (ctp_inj (Q := fun _ => True) (m := i) (rkG G κ) (fun y _ z => ⟨z.2, trivial⟩) (fun a b ha hb z1 z2 e => rk_inj inj ha hb z1.1 z2.1 e)) (ctp_le _ _)
theorem rk_least (inj : ∀ x y, x < 4096 → y < 4096 → κ x = κ y → x = y) {x i : Nat} (hi : i ≤ rkG G κ x) (hm : ∀ y, y < 4096 → G y → i ≤ rkG G κ y → κ x ≤ κ y) : rkG G κ x = i := by
  have h1 := rk_bnd (G := G) inj i
  have h2 := ctp_sub (P := fun y => G y ∧ κ y < κ x) (Q := fun y => G y ∧ rkG G κ y < i) (n := 4096) (fun y hy z => ⟨z.1, by
    rcases Nat.lt_or_ge (rkG G κ y) i with q | q
    · exact q
    · have := hm y hy z.1 q
      have := z.2
      omega⟩)
  have : rkG G κ x = ctp (fun y => G y ∧ κ y < κ x) 4096 := rfl
  omega
/-- the i-th of them, as an int -/
noncomputable def enL (G : Nat → Prop) (κ : Nat → Int) (i : Nat) : Int32 := nI (Classical.epsilon (fun x => x < 4096 ∧ G x ∧ rkG G κ x = i))
theorem enL_eq (inj : ∀ x y, x < 4096 → y < 4096 → κ x = κ y → x = y) {x i : Nat} (hx : x < 4096) (gx : G x) (h : rkG G κ x = i) : enL G κ i = nI x := by
  have := Classical.epsilon_spec (p := fun x => x < 4096 ∧ G x ∧ rkG G κ x = i) ⟨x, hx, gx, h⟩
  unfold enL
  rw [rk_inj inj this.1 hx this.2.1 gx (this.2.2.trans h.symm)]
end RK
/-! costs as whole numbers -/
def KB (k : Nat → Int32) : Prop := ∀ e, e < 12 → -1000 ≤ (k e).toInt ∧ (k e).toInt ≤ 1000
theorem csum_rng {k : Nat → Int32} (h : KB k) (m : Nat) : ∀ n : Nat, n ≤ 12 → -1000 * (n : Int) ≤ (csum k n m).toInt ∧ (csum k n m).toInt ≤ 1000 * (n : Int)
  | 0, _ => by
    have : (csum k 0 m).toInt = 0 := rfl
    omega
  | n + 1, hn => by
    have ih := csum_rng h m n (by omega)
    have hk := h n (by omega)
    show _ ≤ (csum k n m + (if m.testBit n then k n else 0)).toInt ∧ (csum k n m + (if m.testBit n then k n else 0)).toInt ≤ _
    rw [Int32.toInt_add]
    split
    · rw [Int.bmod_eq_of_le (by omega) (by omega)]; omega
    · have : (0 : Int32).toInt = 0 := rfl
      rw [this, Int.add_zero, Int.bmod_eq_of_le (by omega) (by omega)]; omega
def rvI (k : Nat → Int32) (m : Nat) : Int32 := (csum k 12 m + 12000) * 4096 + nI m
def kap (k : Nat → Int32) (m : Nat) : Int := (csum k 12 m).toInt * 4096 + m
theorem rvI_n {k : Nat → Int32} (h : KB k) {m : Nat} (hm : m < 4096) : ∃ n : Nat, rvI k m = nI n ∧ n < 2 ^ 31 ∧ (n : Int) = kap k m + 12000 * 4096 ∧ n % 4096 = m := by
  have r := csum_rng h m 12 (by omega)
  have e : ∃ j : Nat, csum k 12 m + 12000 = nI j ∧ (j : Int) = (csum k 12 m).toInt + 12000 ∧ j ≤ 24000 := by
    refine ⟨((csum k 12 m).toInt + 12000).toNat, ?_, by omega, by omega⟩
    refine Int32.toInt_inj.mp ?_
    rw [Int32.toInt_add, nI_toInt (by omega), show (12000 : Int32).toInt = 12000 from by decide, Int.bmod_eq_of_le (by omega) (by omega)]
    omega
  obtain ⟨j, e1, e2, e3⟩ := e
  refine ⟨j * 4096 + m, ?_, by omega, ?_, by omega⟩
  · unfold rvI
    rw [e1, show (4096 : Int32) = nI 4096 from rfl, pk_mul, nI_add]
  · unfold kap
    omega
theorem kap_inj {k : Nat → Int32} : ∀ x y, x < 4096 → y < 4096 → kap k x = kap k y → x = y := by
  intro x y hx hy h
  unfold kap at h
  omega
theorem rvI_le {k : Nat → Int32} (h : KB k) {x y : Nat} (hx : x < 4096) (hy : y < 4096) : rvI k x ≤ rvI k y ↔ kap k x ≤ kap k y := by
  obtain ⟨a, a1, a2, a3, a4⟩ := rvI_n h hx
  obtain ⟨b, b1, b2, b3, b4⟩ := rvI_n h hy
  rw [a1, b1, nI_leI a2 b2]
  omega
theorem rvI_inj {k : Nat → Int32} (h : KB k) {x y : Nat} (hx : x < 4096) (hy : y < 4096) (e : rvI k x = rvI k y) : x = y := by
  obtain ⟨a, a1, a2, a3, a4⟩ := rvI_n h hx
  obtain ⟨b, b1, b2, b3, b4⟩ := rvI_n h hy
  rw [a1, b1] at e
  have := (nI_eq a2 b2).mp e
  omega
theorem rvI_and {k : Nat → Int32} (h : KB k) {x : Nat} (hx : x < 4096) : rvI k x &&& 4095 = nI x := by
  obtain ⟨a, a1, a2, a3, a4⟩ := rvI_n h hx
  rw [a1]
  exact (fa_mask a 12).trans (by rw [show (2 : Nat) ^ 12 = 4096 from rfl, a4])
def cndG (k : Nat → Int32) (b : Int32) (F : Nat → Bool) (x : Nat) : Prop := F x = true ∧ ¬ b < csum k 12 x
noncomputable def aEnum (S : StT) (f b l : Int32) : AnsT := if fcd S f = 1 then (1, 0, S) else if fcd S f = 2 then (2, 0, S) else if l < 1 ∨ ¬ l ≤ 300 then (3, 0, S) else (0, nI (min (ixF l) (ctp (cndG (sK S) b (sF S (ixF f))) 4096)), stH S (enL (cndG (sK S) b (sF S (ixF f))) (kap (sK S))) (min (ixF l) (ctp (cndG (sK S) b (sF S (ixF f))) 4096)))
def aEnd (S : StT) (i : Int32) : AnsT := if i < 0 ∨ nI (sHL S) ≤ i then (1, 0, S) else (0, sH S (ixF i), S)
noncomputable def dgA (S : StT) : Nat → Int64
  | 0 => (899 : Int64) + (nI (sN S)).toInt64
  | f + 1 => if okv S f = true then (((dgA S f) * 31 + (nI (cntF (sF S f))).toInt64) * 31 + (nI (cardV (NP (sF S f)))).toInt64) else dgA S f * 31 - 1
noncomputable def dgB (S : StT) : Nat → Int64
  | 0 => dgA S (sN S) * 31 + (vNodeAll S).toInt64
  | e + 1 => dgB S e * 31 + (sK S e).toInt64
section EN
variable {Γ : Gm} {d : Nat} {σ : AH} {own ad : Nat → Nat} {S : StT} {c w : Nat}
theorem enumerated_R {i : Int32} (R : RepC Γ σ own ad S c w) (hd : 7 ≤ d) : CLM Γ d MX8_enumerated [.ref (ad 0), .int i] σ own ad c w [IOB] (aEnd S i) := by
  refine RUN.wf (fun W => ?_)
  have x1 := R.2.1
  have y3 : gi σ (ad 0) 16 = nI (sHL S) := R.2.2.1.2.2.2.2.2.1
  have l := R.lt.2.2.2.1
  have bad : (i < 0 ∨ nI (sHL S) ≤ i) → EV Γ MX8_enumerated d 19 [none, none] [] σ (fun oc σ' => ansO [IOB] (aEnd S i) oc ∧ StepC Γ σ own ad c w (aEnd S i).2.2 σ') := by
    intro h
    have hA : aEnd S i = (1, 0, S) := if_pos h
    rw [hA]; exact gX8_enumerated_19 ⟨by omega, rfl, StepC.thr R W⟩
  refine eX8_enumerated ⟨fun z => bad (Or.inl z), fun z1 => ⟨R.x0, ?_⟩⟩
  rw [y3]
  refine ⟨fun z => bad (Or.inr z), fun z2 => ?_⟩
  have hA : aEnd S i = (0, sH S (ixF i), S) := if_neg (fun y => y.elim z1 z2)
  rw [hA]
  obtain ⟨k, hk, rfl⟩ := nI_of z1
  have ek : ixF (nI k) = k := pk_tn (by omega)
  have kl : k < sHL S := by
    rcases Nat.lt_or_ge k (sHL S) with v | v
    · exact v
    · exact absurd ((nI_leI (by omega) hk).mpr v) z2
  refine ⟨fun _ => ⟨ad 19, x1.2.2.2.2.2.2.2.2.2.2.2.1, 300, x1.2.2.2.2.2.2.2.2.2.2.2.2.2.2.2.1, k, IXn (by omega) (by omega), ?_, StepC.refl R W⟩, fun v => absurd ((nI_ltI (b := 300) (by omega) (by omega)).mpr (by omega)) v⟩
  rw [R.2.2.1.2.2.2.2.2.2.2.2 k kl, ek]; rfl
theorem digest_R (R : RepC Γ σ own ad S c w) : RUN Γ d MX8_digest [.ref (ad 0)] σ (fun oc σ' => oc = .inl (some (.long (dgB S 12))) ∧ StepC Γ σ own ad c w S σ') := by
  refine RUN.wf (fun W => ?_)
  have R' := R
  obtain ⟨O, x1, x2, x3, x4, x5, x6, x7, x8, x9⟩ := R'
  obtain ⟨g6, n2⟩ := R.n
  have nc := nodeCount_R (d := d) R
  obtain ⟨ke, us, me, pl, nx, K, den, cnt, v, V, o, y1, y2, y3, y4, y5⟩ := x7
  have e7 : gi σ (ad 9) 7 = vNodeAll S := by
    have e : gi σ (ad 9) 7 = nI (ctp (fun i => 2 ≤ i ∧ 0 < cnt i) nx) := V.2.2.2.2.2.2.2
    have T := V.2.2.1
    have CN : cardN (fun g => ∃ f, okv S f = true ∧ NP (sF S f) g) (ctp (fun i => 2 ≤ i ∧ 0 < cnt i) nx) := by
      refine ⟨nx, den, T.2.2.2.1, fun g hg => ?_, ctp_congr (fun i hi => ?_)⟩
      · obtain ⟨f, h1, h2⟩ := hg
        exact y5 f g h1 h2
      · refine and_congr_right (fun h2 => ?_)
        rw [y1 i h2 hi]
        refine ctp_pos.trans ⟨fun ⟨x, _, z⟩ => ⟨x, z⟩, fun ⟨x, z⟩ => ⟨x, ?_, z⟩⟩
        have := (okf_t.mp z.1).1
        omega
    rw [e]; unfold vNodeAll; rw [cardV_eq CN]
  have last : ∀ e, e ≤ 12 → EV Γ MX8_digest d 106 [some (.ref (ad 0)), some (.long (dgB S e)), none, some (.int (nI e)), none] [] σ (fun oc σ' => oc = .inl (some (.long (dgB S 12))) ∧ StepC Γ σ own ad c w S σ') := by
    refine upto 12 ?_ (fun e he ih => ?_)
    · exact gX8_digest_106 ⟨fun _ => ⟨rfl, StepC.refl R W⟩, fun y => absurd (by decide) y⟩
    · refine gX8_digest_106 ⟨fun y => absurd ((nI_leI (a := 12) (by omega) (by omega)).mp y) (by omega), fun _ => ⟨R.x0, ad 15, x1.2.2.2.2.2.2.2.2.2.2.1, x4.1, ad 16, x4.2.1, 12, x4.2.2.2.2.1, e, IXn (by omega) (by omega), ?_⟩⟩
      rw [x4.2.2.2.2.2.2.2.2.2.2.1 e he, nI_1]
      exact ih
  have fams : ∀ f, f ≤ sN S → EV Γ MX8_digest d 18 [some (.ref (ad 0)), some (.long (dgA S f)), none, some (.int (nI f)), none] [] σ (fun oc σ' => oc = .inl (some (.long (dgB S 12))) ∧ StepC Γ σ own ad c w S σ') := by
    refine upto _ ?_ (fun f hf ih => ?_)
    · refine gX8_digest_18 ⟨R.x0, fun _ => gX8_digest_89 ⟨R.x0, ad 9, x1.2.2.2.2.2.2.2.1, V.sh.2.2.2.2, ?_⟩, fun y => absurd (by rw [g6]; exact nI_le (Nat.le_refl _) (by omega)) y⟩
      rw [e7]
      exact last 0 (by omega)
    · refine gX8_digest_18 ⟨R.x0, fun y => ?_, fun _ => ⟨fun y => absurd ((nI_leI (a := 200) (by omega) (by omega)).mp y) (by omega), fun _ => ⟨ad 3, x1.2.2.2.1, 200, x1.2.2.2.2.2.2.2.2.2.2.2.2.2.2.1, f, IXn (by omega) (by omega), fun y => ?_, fun t y => ?_⟩⟩⟩
      · rw [g6] at y
        exact absurd ((nI_leI (by omega) (by omega)).mp y) (by omega)
      · rw [nI_1]
        have z : okv S f = false := by
          cases q : okv S f
          · rfl
          · obtain ⟨fo, row, k, q1, -⟩ := (x6 f (by omega)).2 q
            rw [y] at q1; exact absurd q1 (by simp)
        have e : dgA S (f + 1) = dgA S f * 31 - 1 := if_neg (by rw [z]; decide)
        rw [e] at ih; exact ih
      · have z : okv S f = true := by
          cases q : okv S f
          · rw [(x6 f (by omega)).1 q] at y; exact absurd y (by simp)
          · rfl
        obtain ⟨fo, row, k, q1, q2, q3, q4, q5, q6, q7, q8, q9, -⟩ := (x6 f (by omega)).2 z
        rw [y] at q1
        have q1 := Option.some.inj q1
        rw [q1]
        refine ⟨q2, ?_⟩
        rw [q6, q7, nI_1]
        have e : dgA S (f + 1) = (((dgA S f) * 31 + (nI (cntF (sF S f))).toInt64) * 31 + (nI (cardV (NP (sF S f)))).toInt64) := if_pos z
        rw [e, cardV_eq q9] at ih; exact ih
  refine eX8_digest ⟨R.x0, ?_⟩
  rw [g6]
  exact fams 0 (Nat.zero_le _)
end EN
