/-! PURE ROWS: what nodes stand for; parts of a family; tables of nodes. -/
def zf : Nat → Bool := fun _ => false
def onef : Nat → Bool := fun m => decide (m = 0)
def nden (t : Nat) (L H : Nat → Bool) : Nat → Bool := fun m => if m.testBit t then H (m - 2 ^ t) else L m
/-- all sets are free of the elements below e -/
def lev (e : Nat) (g : Nat → Bool) : Prop := ∀ m, g m = true → ∀ i, i < e → m.testBit i = false
def sup (g : Nat → Bool) : Prop := ∀ m, g m = true → m < 4096
theorem zf_no {m : Nat} (h : zf m = true) : False := Bool.noConfusion h
theorem lev_zf (e : Nat) : lev e zf := fun m h => (zf_no h).elim
theorem lev_onef (e : Nat) : lev e onef := fun m h i _ => by
  have : m = 0 := of_decide_eq_true h
  rw [this, Nat.zero_testBit]
theorem sup_zf : sup zf := fun m h => (zf_no h).elim
theorem sup_onef : sup onef := fun m h => by
  have : m = 0 := of_decide_eq_true h
  omega
theorem lev_mono {e e' : Nat} {g : Nat → Bool} (h : lev e g) (he : e' ≤ e) : lev e' g := fun m hm i hi => h m hm i (by omega)
theorem nden_lev {t : Nat} {L H : Nat → Bool} (hL : lev (t + 1) L) (hH : lev (t + 1) H) : lev t (nden t L H) := by
  intro m h i hi
  unfold nden at h
  cases hb : m.testBit t
  · rw [hb, if_neg (by decide)] at h
    exact hL m h i (by omega)
  · rw [hb, if_pos rfl] at h
    have := hH _ h i (by omega)
    rw [(tb_sub hb).2, decide_eq_false (show ¬ i = t by omega)] at this
    simpa using this
theorem nden_sup {t : Nat} {L H : Nat → Bool} (ht : t < 12) (hL : sup L) (hH : sup H) (hHl : lev (t + 1) H) : sup (nden t L H) := by
  intro m h
  unfold nden at h
  cases hb : m.testBit t
  · rw [hb, if_neg (by decide)] at h
    exact hL m h
  · rw [hb, if_pos rfl] at h
    have h1 := hH _ h
    have h2 := hHl _ h t (by omega)
    have := add_lt h1 ht h2
    have := (tb_sub hb).1
    omega
theorem nden_in {t x : Nat} {L H : Nat → Bool} (hH : lev (t + 1) H) (h : H x = true) : nden t L H (x + 2 ^ t) = true ∧ (x + 2 ^ t).testBit t = true := by
  have hb := hH x h t (by omega)
  have hb2 : (x + 2 ^ t).testBit t = true := by rw [tb_add hb]; simp
  unfold nden
  rw [hb2, if_pos rfl, Nat.add_sub_cancel]
  exact ⟨h, rfl⟩
theorem ne_zf {g : Nat → Bool} (h : g ≠ zf) : ∃ x, g x = true := by
  by_cases c : ∃ x, g x = true
  · exact c
  · exact absurd (funext fun x => ts_nt (fun z => c ⟨x, z⟩)) h
theorem nden_ne_zf {t : Nat} {L H : Nat → Bool} (hH : lev (t + 1) H) (h : H ≠ zf) : nden t L H ≠ zf := by
  obtain ⟨x, hx⟩ := ne_zf h
  intro e
  have := (nden_in (L := L) hH hx).1
  rw [e] at this; exact zf_no this
theorem nden_ne_onef {t : Nat} {L H : Nat → Bool} (hH : lev (t + 1) H) (h : H ≠ zf) : nden t L H ≠ onef := by
  obtain ⟨x, hx⟩ := ne_zf h
  intro e
  have q := nden_in (L := L) hH hx
  rw [e] at q
  have : x + 2 ^ t = 0 := of_decide_eq_true q.1
  have := Nat.two_pow_pos t
  omega
theorem nden_top {t t' : Nat} {L H L' H' : Nat → Bool} (hH : lev (t + 1) H) (h : H ≠ zf) (hL' : lev (t' + 1) L') (hH' : lev (t' + 1) H') (e : nden t L H = nden t' L' H') : t' ≤ t := by
  rcases Nat.lt_or_ge t t' with c | c
  · obtain ⟨x, hx⟩ := ne_zf h
    have q := nden_in (L := L) hH hx
    rw [e] at q
    have := nden_lev hL' hH' _ q.1 t c
    rw [q.2] at this; exact absurd this (by decide)
  · exact c
theorem nden_low {t : Nat} {L H L' H' : Nat → Bool} (hL : lev (t + 1) L) (hL' : lev (t + 1) L') (e : nden t L H = nden t L' H') : L = L' := by
  funext m
  cases hb : m.testBit t
  · have := congrFun e m
    unfold nden at this
    rw [hb, if_neg (by decide), if_neg (by decide)] at this
    exact this
  · have a : L m = false := ts_nt (fun z => by have := hL m z t (by omega); rw [hb] at this; exact absurd this (by decide))
    have b : L' m = false := ts_nt (fun z => by have := hL' m z t (by omega); rw [hb] at this; exact absurd this (by decide))
    rw [a, b]
theorem nden_high {t : Nat} {L H L' H' : Nat → Bool} (hH : lev (t + 1) H) (hH' : lev (t + 1) H') (e : nden t L H = nden t L' H') : H = H' := by
  funext m
  cases hb : m.testBit t
  · have := congrFun e (m + 2 ^ t)
    unfold nden at this
    have hb2 : (m + 2 ^ t).testBit t = true := by rw [tb_add hb]; simp
    rw [hb2, if_pos rfl, if_pos rfl, Nat.add_sub_cancel] at this
    exact this
  · have a : H m = false := ts_nt (fun z => by have := hH m z t (by omega); rw [hb] at this; exact absurd this (by decide))
    have b : H' m = false := ts_nt (fun z => by have := hH' m z t (by omega); rw [hb] at this; exact absurd this (by decide))
    rw [a, b]
/-- a table of nodes: what each number stands for; K i is the node's top, low and high -/
def NT (K : Nat → Nat × Nat × Nat) (n : Nat) (den : Nat → Nat → Bool) : Prop :=
  den 0 = zf ∧ den 1 = onef ∧ (∀ i, 2 ≤ i → i < n → (K i).1 < 12 ∧ (K i).2.1 < i ∧ (K i).2.2 < i ∧ (K i).2.2 ≠ 0 ∧ lev ((K i).1 + 1) (den (K i).2.1) ∧ lev ((K i).1 + 1) (den (K i).2.2) ∧ den i = nden (K i).1 (den (K i).2.1) (den (K i).2.2)) ∧ (∀ i j, i < n → j < n → den i = den j → i = j) ∧ ∀ i, i < n → sup (den i)
theorem NT.start (K : Nat → Nat × Nat × Nat) : NT K 2 (fun i => if i = 0 then zf else onef) := by
  refine ⟨rfl, rfl, fun i h2 h => absurd h (by omega), fun i j hi hj e => ?_, fun i hi => ?_⟩
  · have z : zf ≠ onef := fun q => absurd (congrFun q 0) (by decide)
    dsimp only at e
    by_cases a : i = 0 <;> by_cases b : j = 0
    · omega
    · rw [if_pos a, if_neg b] at e; exact absurd e z
    · rw [if_neg a, if_pos b] at e; exact absurd e.symm z
    · omega
  · dsimp only
    by_cases a : i = 0
    · rw [if_pos a]; exact sup_zf
    · rw [if_neg a]; exact sup_onef
/-- a node that is there -/
theorem NT.found {K : Nat → Nat × Nat × Nat} {n : Nat} {den : Nat → Nat → Bool} (h : NT K n den) {i t l h' : Nat} (h2 : 2 ≤ i) (hi : i < n) (e : K i = (t, l, h')) : den i = nden t (den l) (den h') := by
  have := (h.2.2.1 i h2 hi).2.2.2.2.2.2
  rw [e] at this
  exact this
/-- a new node -/
theorem NT.add {K : Nat → Nat × Nat × Nat} {n : Nat} {den : Nat → Nat → Bool} (h : NT K n den) {t l hh : Nat} (hn : 2 ≤ n) (ht : t < 12) (hl : l < n) (hhn : hh < n) (h0 : hh ≠ 0) (lL : lev (t + 1) (den l)) (lH : lev (t + 1) (den hh)) (new : ∀ i, 2 ≤ i → i < n → K i ≠ (t, l, hh)) : NT (up K n (t, l, hh)) (n + 1) (up den n (nden t (den l) (den hh))) := by
  obtain ⟨d0, d1, dn, dj, ds⟩ := h
  have hz : den hh ≠ zf := fun z => h0 (dj hh 0 hhn (by omega) (by rw [d0]; exact z))
  have nw : ∀ i, i < n → den i ≠ nden t (den l) (den hh) := by
    intro i hi e
    rcases Nat.lt_or_ge i 2 with c | c
    · rcases Nat.lt_or_ge i 1 with c1 | c1
      · have : i = 0 := by omega
        rw [this, d0] at e
        exact nden_ne_zf lH hz e.symm
      · have : i = 1 := by omega
        rw [this, d1] at e
        exact nden_ne_onef lH hz e.symm
    · obtain ⟨a1, a2, a3, a4, a5, a6, a7⟩ := dn i c hi
      rw [a7] at e
      have hz' : den (K i).2.2 ≠ zf := fun z => a4 (dj _ 0 (by omega) (by omega) (by rw [d0]; exact z))
      have t1 := nden_top a6 hz' lL lH e
      have t2 := nden_top lH hz a5 a6 e.symm
      have et : (K i).1 = t := by omega
      rw [et] at e a5 a6
      have el := dj _ _ (by omega) hl (nden_low a5 lL e)
      have eh := dj _ _ (by omega) hhn (nden_high a6 lH e)
      exact new i c hi (by rw [← et, ← el, ← eh])
  have old : ∀ i, i < n → up den n (nden t (den l) (den hh)) i = den i := fun i hi => up_ne _ _ (by omega)
  refine ⟨by rw [old 0 (by omega)]; exact d0, by rw [old 1 (by omega)]; exact d1, fun i h2 hi => ?_, fun i j hi hj e => ?_, fun i hi => ?_⟩
  · by_cases c : i = n
    · subst c
      rw [up_same, up_same, old l hl, old hh hhn]
      exact ⟨ht, hl, hhn, h0, lL, lH, rfl⟩
    · have hi' : i < n := by omega
      obtain ⟨a1, a2, a3, a4, a5, a6, a7⟩ := dn i h2 hi'
      rw [up_ne _ _ c, old i hi', old _ (by omega), old _ (by omega)]
      exact ⟨a1, a2, a3, a4, a5, a6, a7⟩
  · by_cases c : i = n
    · by_cases c2 : j = n
      · omega
      · rw [c, up_same, old j (by omega)] at e
        exact absurd e.symm (nw j (by omega))
    · by_cases c2 : j = n
      · rw [c2, up_same, old i (by omega)] at e
        exact absurd e (nw i (by omega))
      · rw [old i (by omega), old j (by omega)] at e
        exact dj i j (by omega) (by omega) e
  · by_cases c : i = n
    · rw [c, up_same]
      exact nden_sup ht (ds l hl) (ds hh hhn) lH
    · rw [old i (by omega)]
      exact ds i (by omega)
/-- what is left of a family when the elements below e were decided as in p -/
def part (F : Nat → Bool) (e p : Nat) : Nat → Bool := fun m => decide (m % 2 ^ e = 0) && F (p + m)
theorem mod_tb {m e : Nat} : m % 2 ^ e = 0 ↔ ∀ i, i < e → m.testBit i = false := by
  constructor
  · intro h i hi
    have := Nat.testBit_mod_two_pow m e i
    rw [h, Nat.zero_testBit, decide_eq_true hi, Bool.true_and] at this
    exact this.symm
  · intro h
    apply Nat.eq_of_testBit_eq
    intro i
    rw [Nat.testBit_mod_two_pow, Nat.zero_testBit]
    by_cases c : i < e
    · rw [h i c, Bool.and_false]
    · rw [decide_eq_false c, Bool.false_and]
theorem part_lev (F : Nat → Bool) (e p : Nat) : lev e (part F e p) := by
  intro m h
  unfold part at h
  rw [Bool.and_eq_true, decide_eq_true_iff] at h
  exact mod_tb.mp h.1
theorem part_s (F : Nat → Bool) (e p : Nat) : part F e p = nden e (part F (e + 1) p) (part F (e + 1) (p + 2 ^ e)) := by
  funext m
  unfold nden part
  cases hb : m.testBit e
  · rw [if_neg (by decide)]
    congr 1
    apply decide_eq_decide.mpr
    rw [mod_tb, mod_tb]
    constructor
    · intro h i hi
      by_cases c : i = e
      · rw [c]; exact hb
      · exact h i (by omega)
    · intro h i hi
      exact h i (by omega)
  · rw [if_pos rfl]
    obtain ⟨s1, s2⟩ := tb_sub hb
    rw [show p + 2 ^ e + (m - 2 ^ e) = p + m by omega]
    congr 1
    apply decide_eq_decide.mpr
    rw [mod_tb, mod_tb]
    constructor
    · intro h i hi
      rw [s2]
      by_cases c : i = e
      · subst c; simp
      · rw [h i (by omega)]; rfl
    · intro h i hi
      have := h i (by omega)
      rw [s2, decide_eq_false (show ¬ i = e by omega)] at this
      simpa using this
theorem nden_zf {t : Nat} {L : Nat → Bool} (hL : lev (t + 1) L) : nden t L zf = L := by
  funext m
  unfold nden
  cases hb : m.testBit t
  · rw [if_neg (by decide)]
  · rw [if_pos rfl]
    exact (ts_nt (fun z => by have := hL m z t (by omega); rw [hb] at this; exact absurd this (by decide)) : L m = false).symm
theorem part_z {F : Nat → Bool} {e p : Nat} (h : part F (e + 1) (p + 2 ^ e) = zf) : part F e p = part F (e + 1) p := by
  rw [part_s, h, nden_zf (part_lev _ _ _)]
theorem part_12 {F : Nat → Bool} (hs : sup F) (m : Nat) : part F 12 m = if F m then onef else zf := by
  funext x
  unfold part
  by_cases c : x = 0
  · subst c
    rw [Nat.add_zero]
    cases F m <;> rfl
  · have o : (if F m then onef else zf) x = false := by
      cases F m
      · rfl
      · exact decide_eq_false c
    rw [o]
    by_cases q : x % 2 ^ 12 = 0
    · have : F (m + x) = false := ts_nt (fun z => by have := hs _ z; omega)
      rw [this, Bool.and_false]
    · rw [decide_eq_false q, Bool.false_and]
theorem part_big {F : Nat → Bool} {k e p : Nat} (hF : ∀ m, F m = true → m < 2 ^ k) (h : k ≤ e) : part F (e + 1) (p + 2 ^ e) = zf := by
  funext m
  unfold part
  have h1 : 2 ^ k ≤ 2 ^ e := Nat.pow_le_pow_right (by decide) h
  have : F (p + 2 ^ e + m) = false := ts_nt (fun z => by have := hF _ z; omega)
  rw [this, Bool.and_false]; rfl
/-- the nodes of a family's diagram -/
def NP (F : Nat → Bool) (g : Nat → Bool) : Prop := ∃ e p, e < 12 ∧ p < 2 ^ e ∧ part F (e + 1) (p + 2 ^ e) ≠ zf ∧ g = part F e p
def fam (r : Nat → Int64) (m : Nat) : Bool := decide (m < 4096) && bs r m
theorem fam_sup (r : Nat → Int64) : sup (fam r) := fun m h => by
  unfold fam at h
  rw [Bool.and_eq_true] at h
  exact of_decide_eq_true h.1
theorem fam_lt (r : Nat → Int64) {m : Nat} (h : m < 4096) : fam r m = bs r m := by unfold fam; rw [decide_eq_true h]; rfl
/-- counts along an injection -/
theorem ctp_inj {P Q : Nat → Prop} {n m : Nat} (f : Nat → Nat) (h1 : ∀ i, i < n → P i → f i < m ∧ Q (f i)) (h2 : ∀ i j, i < n → j < n → P i → P j → f i = f j → i = j) : ctp P n ≤ ctp Q m := by
  have kth : ∀ k, ∃ i, k < ctp P n → i < n ∧ P i ∧ fb_ct (fun x => bd (P x)) i = k := by
    intro k
    by_cases c : k < ctp P n
    · obtain ⟨i, a, b, e⟩ := fb_ct_kth c
      exact ⟨i, fun _ => ⟨a, bd_true.mp b, e⟩⟩
    · exact ⟨0, fun z => absurd z c⟩
  have K := fun k => Classical.choose_spec (kth k)
  have lt : ∀ i, i < m → Q i → fb_ct (fun x => bd (Q x)) i < ctp Q m := by
    intro i hi hq
    have h1 := fb_ct_mono (fun x => bd (Q x)) (show i + 1 ≤ m by omega)
    rw [fb_ct_succ, bd_true.mpr hq, if_pos rfl] at h1
    unfold ctp
    omega
  refine fb_holes (ctp Q m) (ctp P n) (fun k => fb_ct (fun x => bd (Q x)) (f (Classical.choose (kth k)))) (fun k hk => ?_) (fun k l hkl hl e => ?_)
  · obtain ⟨a, b, _⟩ := K k hk
    obtain ⟨c1, c2⟩ := h1 _ a b
    exact lt _ c1 c2
  · obtain ⟨a, b, c⟩ := K k (by omega)
    obtain ⟨a', b', c'⟩ := K l hl
    obtain ⟨q1, q2⟩ := h1 _ a b
    obtain ⟨q1', q2'⟩ := h1 _ a' b'
    have e1 := fb_ct_kth_one (bd_true.mpr q2) (bd_true.mpr q2') e
    have e2 := h2 _ _ a a' b b' e1
    rw [e2, c'] at c
    omega

