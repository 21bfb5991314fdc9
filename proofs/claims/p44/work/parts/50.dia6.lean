/-! ROWS of Diagrams: mark, with the counts. -/
def inc (sg : Bool) (c : Nat) : Nat := if sg then c + 1 else c - 1
def moreI (sg : Bool) : Int32 := if sg then 1 else -1
theorem ctp_upd {P Q : Nat → Prop} {n a : Nat} (ha : a < n) (h : ∀ i, i < n → i ≠ a → (P i ↔ Q i)) : ctp Q n + (if bd (P a) then 1 else 0) = ctp P n + (if bd (Q a) then 1 else 0) := by
  have := fb_ct_upd (fun x => bd (P x)) (bd (Q a)) ha
  unfold ctp
  rw [← this]
  congr 1
  apply fb_ct_cong
  intro k hk
  by_cases c : k = a
  · rw [if_pos c, c]
  · rw [if_neg c]; exact (bd_congr (h k hk c)).symm
theorem nI_le0 {n : Nat} (h : n < 2 ^ 31) : nI n ≤ 0 ↔ n = 0 := by
  have := nI_leI (a := n) (b := 0) h (by decide)
  rw [show (0 : Int32) = nI 0 from rfl, this]
  omega
theorem nI_m1 {c : Nat} (h : 1 ≤ c) : nI c + (-1) = nI (c - 1) := by
  rw [show (-1 : Int32) = -(nI 1) from rfl, ← Int32.sub_eq_add_neg]
  exact pk_sub h
theorem inc_I {sg : Bool} {c : Nat} (h : sg = false → 1 ≤ c) : nI c + moreI sg = nI (inc sg c) := by
  cases sg
  · exact nI_m1 (h rfl)
  · exact nI_1 c
theorem markV_R {Γ : Gm} {d : Nat} {σ : AH} {dg pa ke us me pl c nx v id : Nat} {K : Nat → Nat × Nat × Nat} {den : Nat → Nat → Bool} {cnt : Nat → Nat} (sg : Bool) (V : DV σ dg pa ke us me pl c nx K den cnt v) (h2 : 2 ≤ id) (hid : id < nx) (hcnt : cnt id < 2 ^ 20) (hsg0 : sg = false → gi σ me id ≠ nI v → 1 ≤ cnt id) : RI Γ d MX3_mark [.ref dg, .int (nI id), .int (moreI sg)] σ (fun r σ' => (r = 0 ∧ σ' = σ ∧ gi σ me id = nI v) ∨ (r = 1 ∧ gi σ me id ≠ nI v ∧ DV σ' dg pa ke us me pl c nx K den (up cnt id (inc sg (cnt id))) v ∧ gi σ' me = up (gi σ me) id (nI v) ∧ Chg (fun a => a = dg ∨ a = us ∨ a = me) (fun _ => False) σ σ')) := by
  obtain ⟨D, Vk, Vn, Vv, Vu, Vc, Vm, Vi⟩ := V
  refine (mark_R (more := moreI sg) D hid).post (fun o σ' W' ⟨r, ho, hr⟩ => ⟨r, ho, ?_⟩)
  rw [Vv, Vu id h2 hid] at hr
  have ci := hcnt
  have D15 : c ≤ 20 := D.2.2.2.2.2.2.2.2.2.2.2.2.2.2.2.2.2.2.2.2.2.1
  have D13 : nx ≤ 2 ^ c := D.2.2.2.2.2.2.2.2.2.2.2.2.2.2.2.2.2.2.2.1
  have hp : 2 ^ c ≤ 2 ^ 20 := Nat.pow_le_pow_right (by decide) D15
  rcases hr with ⟨rfl, rfl, e⟩ | ⟨rfl, ne, D', em, eu, ed, C⟩
  · exact Or.inl ⟨rfl, rfl, e⟩
  · have hsg : sg = false → 1 ≤ cnt id := fun z => hsg0 z ne
    refine Or.inr ⟨rfl, ne, ⟨D', fun i a b => ?_, Vn, ?_, fun i a b => ?_, fun i a => ?_, fun i a b => ?_, ?_⟩, em, C⟩
    · rw [C.gj (fun z => z)]; exact Vk i a b
    · rw [ed, up_ne _ _ (by decide)]; exact Vv
    · rw [eu]
      by_cases q : i = id
      · rw [q, up_same, up_same, inc_I hsg]
      · rw [up_ne _ _ q, up_ne _ _ q]; exact Vu i a b
    · rw [up_ne _ _ (by omega)]; exact Vc i a
    · rw [em]
      by_cases q : i = id
      · exact ⟨v, Nat.le_refl _, by rw [q, up_same]⟩
      · rw [up_ne _ _ q]; exact Vm i a b
    · rw [ed, up_same, Vi]
      have U := ctp_upd (P := fun i => 2 ≤ i ∧ 0 < cnt i) (Q := fun i => 2 ≤ i ∧ 0 < up cnt id (inc sg (cnt id)) i) hid (fun i hi hne => by rw [up_ne _ _ hne])
      rw [up_same] at U
      have le := ctp_le (fun i => 2 ≤ i ∧ 0 < cnt i) nx
      unfold iuN
      rw [inc_I hsg]
      have ib : inc sg (cnt id) < 2 ^ 31 := by unfold inc; cases sg <;> simp <;> omega
      have J1 := nI_le0 (n := cnt id) (by omega)
      have J2 := nI_le0 ib
      cases sg
      · have c1 := hsg rfl
        have e1 : inc false (cnt id) = cnt id - 1 := rfl
        rw [e1] at U J2 ⊢
        rw [bd_true.mpr ⟨h2, by omega⟩, if_pos rfl] at U
        by_cases q : cnt id = 1
        · rw [bd_false.mpr (by omega), if_neg (by decide)] at U
          rw [if_neg (by rw [J1, J2]; omega)]
          have pos : 1 ≤ ctp (fun i => 2 ≤ i ∧ 0 < cnt i) nx := ctp_pos.mpr ⟨id, hid, h2, by omega⟩
          rw [show moreI false = -1 from rfl, nI_m1 pos]
          apply congrArg nI
          omega
        · rw [bd_true.mpr ⟨h2, by omega⟩, if_pos rfl] at U
          rw [if_pos (by rw [J1, J2]; omega)]
          apply congrArg nI
          omega
      · have e1 : inc true (cnt id) = cnt id + 1 := rfl
        rw [e1] at U J2 ⊢
        rw [bd_true.mpr (show 2 ≤ id ∧ 0 < cnt id + 1 from ⟨h2, by omega⟩), if_pos rfl] at U
        by_cases q : cnt id = 0
        · rw [bd_false.mpr (by omega), if_neg (by decide)] at U
          rw [if_neg (by rw [J1, J2]; omega), show moreI true = 1 from rfl, nI_1]
          apply congrArg nI
          omega
        · rw [bd_true.mpr ⟨h2, by omega⟩, if_pos rfl] at U
          rw [if_pos (by rw [J1, J2]; omega)]
          apply congrArg nI
          omega

