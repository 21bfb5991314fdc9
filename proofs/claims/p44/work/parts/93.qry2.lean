/-! ROWS of FamilyStore: more questions. -/
section QY
variable {Γ : Gm} {d : Nat} {σ : AH} {own ad : Nat → Nat} {S : StT} {c w : Nat}
theorem inside_call {ra rb : Nat} {K : Int32 → AH → Prop} {KX : String → AH → Prop} (ha : hs σ ra = some (23, 64)) (hb : hs σ rb = some (23, 64)) (k : K (vSub (fam (gj σ ra)) (fam (gj σ rb))) σ) (hd : 1 ≤ d) : CI Γ d MX7_isInside [.ref ra, .ref rb] σ K KX := by
  have key : (∀ x, x < 4096 → bs (gj σ ra) x = true → bs (gj σ rb) x = true) ↔ ∀ x, fam (gj σ ra) x = true → fam (gj σ rb) x = true := by
    constructor
    · intro h x hx
      have := fam_sup _ x hx
      rw [fam_lt _ this] at hx ⊢
      exact h x this hx
    · intro h x hx hb
      have := h x (by rw [fam_lt _ hx]; exact hb)
      rw [fam_lt _ hx] at this; exact this
  refine CI.of (d2 := 0) (isInside_R ha hb (by omega) (by omega)) (by omega) (fun r σ1 _ q => ?_)
  obtain ⟨e, q⟩ := q
  subst e
  unfold vSub at k
  rcases q with ⟨rfl, q⟩ | ⟨rfl, q⟩
  · rw [bd_true.mpr (key.mp q)] at k; exact k
  · rw [bd_false.mpr (fun z => q (key.mpr z))] at k; exact k
theorem aQ2_0 {f g : Int32} {v : (Nat → Bool) → (Nat → Bool) → Int32} (h : fcd S f = 0) (h2 : fcd S g = 0) : aQ2 S f g v = (0, v (sF S (ixF f)) (sF S (ixF g)), S) := (if_neg (by omega)).trans (if_neg (by omega))
/-- two families alike, told by their counts and one being inside the other -/
theorem vEq_of (F G : Nat → Bool) (sF' : sup F) (sG : sup G) : vEq F G = if cntF F = cntF G then vSub F G else 0 := by
  unfold vEq vSub
  by_cases e : cntF F = cntF G
  · rw [if_pos e]
    congr 1
    refine bd_congr ⟨fun z x hx => by rw [← z]; exact hx, fun z => ?_⟩
    funext x
    rcases Nat.lt_or_ge x 4096 with hx | hx
    · cases q : F x
      · cases q2 : G x
        · rfl
        · exfalso
          have h1 : fb_ct F 4096 + 1 ≤ fb_ct G 4096 := by
            have := fb_ct_upd F true hx
            rw [q, if_neg (by decide), if_pos rfl, Nat.add_zero] at this
            have le := fb_ct_sub (p := fun k => if k = x then true else F k) (q := G) (n := 4096) (fun k _ hk => by
              by_cases y : k = x
              · rw [y]; exact q2
              · rw [if_neg y] at hk; exact z k hk)
            omega
          unfold cntF at e
          omega
      · exact (z x q).symm
    · cases q : F x
      · cases q2 : G x
        · rfl
        · exact absurd (sG x q2) (by omega)
      · exact absurd (sF' x q) (by omega)
  · rw [if_neg e, bd_false.mpr (fun z => e (by rw [z]))]; rfl
theorem areEqual_R {f g : Int32} (R : RepC Γ σ own ad S c w) (hd : 9 ≤ d) : CLM Γ d MX8_areEqual [.ref (ad 0), .int f, .int g] σ own ad c w [IOB, NSE] (aQ2 S f g vEq) := by
  refine RUN.wf (fun W => eX8_areEqual ⟨R.x0, cc_call R (fun e => ?_) (fun e1 => ⟨R.x0, cc_call R (fun e => ?_) (fun e2 => ⟨R.x0, fo_call R (fun e => absurd e e1) (fun e => ?_) (fun fo A => ⟨R.x0, fo_call R (fun e => absurd e e2) (fun e => ?_) (fun go B => ?_) (by omega)⟩) (by omega)⟩) (by omega)⟩) (by omega)⟩)
  · have hA : aQ2 S f g vEq = (1, 0, S) := if_pos (Or.inl e)
    rw [hA]; exact ⟨rfl, StepC.thr R W⟩
  · have hA : aQ2 S f g vEq = (1, 0, S) := if_pos (Or.inr e)
    rw [hA]; exact ⟨rfl, StepC.thr R W⟩
  · have hA : aQ2 S f g vEq = (2, 0, S) := (if_neg (fun z => z.elim e1 e2)).trans (if_pos (Or.inl e))
    rw [hA]; exact ⟨rfl, StepC.thr R W⟩
  · have hA : aQ2 S f g vEq = (2, 0, S) := (if_neg (fun z => z.elim e1 e2)).trans (if_pos (Or.inr e))
    rw [hA]; exact ⟨rfl, StepC.thr R W⟩
  · obtain ⟨ra, ka, a0, a1, a2, a3, a4, a5, a6, a7, a8, a9, a10, a11, a12, a13, a14, a15, a16⟩ := A
    obtain ⟨rb, kb, b0, b1, b2, b3, b4, b5, b6, b7, b8, b9, b10, b11, b12, b13, b14, b15, b16⟩ := B
    rw [aQ2_0 a0 b0, vEq_of _ _ a4 b4]
    have l1 := cntF_le (sF S (ixF f))
    have l2 := cntF_le (sF S (ixF g))
    refine ⟨a5, b5, ?_⟩
    rw [a9, b9]
    refine ⟨fun z => ?_, fun z => ⟨ra, a6, rb, b6, inside_call a7 b7 ?_ (by omega)⟩⟩
    · rw [if_neg (fun y => z (by rw [y]))]
      exact ⟨rfl, StepC.refl R W⟩
    · rw [if_pos ((nI_eq (by omega) (by omega)).mp z), a8, b8]
      refine ⟨fun y => ⟨?_, StepC.refl R W⟩, fun y => ⟨?_, StepC.refl R W⟩⟩
      · show _ = Sum.inl (some (Value.int (vSub _ _)))
        rw [y]
      · show _ = Sum.inl (some (Value.int (vSub _ _)))
        have : vSub (sF S (ixF f)) (sF S (ixF g)) = 1 := by
          unfold vSub at y ⊢
          rw [(b2i_ne0 _).mp y]; rfl
        rw [this]
end QY

