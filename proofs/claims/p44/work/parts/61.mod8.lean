/-! ROWS of the model: operate. -/
noncomputable def modP (o : Nat) (F G : Nat → Bool) (x : Nat) : Prop := if o = 4 then isJn F G x else if o = 5 then isQuo F G x else if o = 6 then isRem F G x else if o = 7 then isMt F G x else if o = 12 then isHit F x else keepF o F G x = true
theorem isQuo_congr {F F' G G' : Nat → Bool} {m : Nat} (hm : m < 4096) (h : ∀ x, x < 4096 → F x = F' x) (h2 : ∀ x, x < 4096 → G x = G' x) : isQuo F G m ↔ isQuo F' G' m :=
  ⟨fun k y hy g => by have := k y hy (by rw [h2 y hy]; exact g); rw [h _ (or_lt hm hy)] at this; exact this, fun k y hy g => by have := k y hy (by rw [← h2 y hy]; exact g); rw [← h _ (or_lt hm hy)] at this; exact this⟩
theorem isRem_congr {F F' G G' : Nat → Bool} {m : Nat} (hm : m < 4096) (h : ∀ x, x < 4096 → F x = F' x) (h2 : ∀ x, x < 4096 → G x = G' x) : isRem F G m ↔ isRem F' G' m := by
  unfold isRem
  rw [h m hm]
  exact and_congr_right (fun _ => not_congr (isOp_congr (fun x hx => bd_congr (isQuo_congr hx h h2)) h2))
theorem isHit_congr {F F' : Nat → Bool} {m : Nat} (hm : m < 4096) (h : ∀ x, x < 4096 → F x = F' x) : isHit F m ↔ isHit F' m :=
  isMin_congr hm (fun x _ => bd_congr (not_congr (hasDn_congr h)))
theorem keepF_congr {o : Nat} {F F' G G' : Nat → Bool} {m : Nat} (hm : m < 4096) (h : ∀ x, x < 4096 → F x = F' x) (h2 : ∀ x, x < 4096 → G x = G' x) : keepF o F G m = keepF o F' G' m := by
  have d1 : ∀ (A B : Nat → Bool), (∀ x, x < 4096 → A x = B x) → dn A 12 m = dn B 12 m := fun A B q => ctp_congr (fun x hx => by rw [q x hx])
  have u1 : ∀ (A B : Nat → Bool), (∀ x, x < 4096 → A x = B x) → upc A 12 m = upc B 12 m := fun A B q => ctp_congr (fun x hx => by rw [q x hx])
  unfold keepF p1F p2F
  rw [h m hm, h2 m hm, d1 F F' h, u1 F F' h, d1 G G' h2, u1 G G' h2]
theorem modP_congr {o : Nat} {F F' G G' : Nat → Bool} {m : Nat} (hm : m < 4096) (h : ∀ x, x < 4096 → F x = F' x) (h2 : ∀ x, x < 4096 → G x = G' x) : modP o F G m ↔ modP o F' G' m := by
  unfold modP
  by_cases c4 : o = 4
  · rw [if_pos c4, if_pos c4]; exact isOp_congr (b := false) h h2
  · rw [if_neg c4, if_neg c4]
    by_cases c5 : o = 5
    · rw [if_pos c5, if_pos c5]; exact isQuo_congr hm h h2
    · rw [if_neg c5, if_neg c5]
      by_cases c6 : o = 6
      · rw [if_pos c6, if_pos c6]; exact isRem_congr hm h h2
      · rw [if_neg c6, if_neg c6]
        by_cases c7 : o = 7
        · rw [if_pos c7, if_pos c7]; exact isOp_congr (b := true) h h2
        · rw [if_neg c7, if_neg c7]
          by_cases c12 : o = 12
          · rw [if_pos c12, if_pos c12]; exact isHit_congr hm h
          · rw [if_neg c12, if_neg c12, keepF_congr hm h h2]
