/-! ROWS of Calculator: its rows, push, apply. Roles of arrays and objects: own a. -/
def RP (W : Nat → Prop) (own : Nat → Nat) (b : Nat) : Nat → Prop := fun a => W (own a) ∨ b ≤ a
def cW (r : Nat) : Prop := r = 5 ∨ r = 6 ∨ r = 8 ∨ r = 9 ∨ r = 14 ∨ r = 15 ∨ (100 ≤ r ∧ r < 143)
def CalOK (σ : AH) (own : Nat → Nat) (ca ra : Nat) : Prop := hs σ ca = some (1, 2) ∧ gr σ ca 0 = some ra ∧ hs σ ra = some (26, 43) ∧ ∀ k t, k < 43 → gr σ ra k = some t → hs σ t = some (23, 64) ∧ own t = 100 + k
noncomputable def nnr (σ : AH) (ra : Nat) : Nat := ctp (fun k => gr σ ra k = none) 43
theorem AlgOK.fr {P : Nat → Prop} {σ σ' : AH} {al f1 f2 sp st : Nat} (A : AlgOK σ al f1 f2 sp st) (h : FR P σ σ') (ha : ¬ P al) : AlgOK σ' al f1 f2 sp st := by
  obtain ⟨A0, A1, A2, A3, A4, A5, A6, A7, A8, A9, A10⟩ := A
  have g := h.gr ha
  exact ⟨h.gh A0, by rw [g]; exact A1, by rw [g]; exact A2, by rw [g]; exact A3, by rw [g]; exact A4, h.gh A5, h.gh A6, h.gh A7, h.gh A8, A9, A10⟩
def CRI (b : Nat) (σ0 : AH) (own0 : Nat → Nat) (al f1 f2 sp st ca ra : Nat) (τ : AH) (own : Nat → Nat) (dp h : Nat) (S : Nat → Nat → Bool) : Prop :=
  AlgOK τ al f1 f2 sp st ∧ CalOK τ own ca ra ∧ FR (RP cW own0 b) σ0 τ ∧ (∀ a, a < b → own a = own0 a) ∧ (own0 f1 = 5 ∧ own0 f2 = 6 ∧ own0 sp = 8 ∧ own0 st = 9 ∧ own0 ca = 14 ∧ own0 ra = 15 ∧ sp < b ∧ st < b ∧ own0 al = 7 ∧ al < b ∧ ca < b ∧ ra < b ∧ f1 < b ∧ f2 < b) ∧ gi τ ca 1 = nI dp ∧ (∀ k, k < h → ∃ t, gr τ ra k = some t ∧ fam (gj τ t) = S k) ∧ hc τ + nnr τ ra = hc σ0 + nnr σ0 ra ∧ hv τ + 64 * nnr τ ra = hv σ0 + 64 * nnr σ0 ra
section CA
variable {Γ : Gm} {d b : Nat} {σ0 τ : AH} {own0 own : Nat → Nat} {al f1 f2 sp st ca ra dp h : Nat} {S : Nat → Nat → Bool}
theorem CRI.dep {τ' : AH} {dp' : Nat} (I : CRI b σ0 own0 al f1 f2 sp st ca ra τ own dp h S) (e : τ' = setI τ ca 1 (nI dp')) : CRI b σ0 own0 al f1 f2 sp st ca ra τ' own dp' h S := by
  obtain ⟨I0, I1, I2, I3, I4, I5, I6, I7, I8⟩ := I
  have F : FR (RP cW own0 b) τ τ' := by rw [e]; exact FR.setI _ _ _ (Or.inl (by rw [I4.2.2.2.2.1]; unfold cW; omega))
  refine ⟨?_, ?_, I2.trans F, I3, I4, by rw [e, gi_setI_s, up_same], ?_, ?_, ?_⟩
  · rw [e]; exact I0
  · rw [e]; exact I1
  · rw [e]; exact I6
  · rw [e]; exact I7
  · rw [e]; exact I8
/-- a row of the stack (or the next one) has been written -/
theorem CRI.wr {τ' : AH} {k t h' : Nat} {F : Nat → Bool} (I : CRI b σ0 own0 al f1 f2 sp st ca ra τ own dp h S) (hk : k < 43) (ht : gr τ ra k = some t) (h43 : h ≤ 43) (c : Chg (aI f1 f2) (aJ sp st t) τ τ') (hF : fam (gj τ' t) = F) (hh : ∀ j, j < h' → j < h ∨ j = k) : CRI b σ0 own0 al f1 f2 sp st ca ra τ' own dp h' (up S k F) := by
  obtain ⟨I0, I1, I2, I3, I4, I5, I6, I7, I8⟩ := I
  obtain ⟨w1, w2, w3, w4, w5, w6, w7, w8, w9, w10, w11, w12, w13, w14⟩ := I4
  obtain ⟨t1, t2⟩ := I1.2.2.2 k t hk ht
  have nf1 : ca ≠ f1 := fun z => by rw [z, w1] at w5; omega
  have nf2 : ca ≠ f2 := fun z => by rw [z, w2] at w5; omega
  have Fr : FR (RP cW own0 b) τ τ' := FR.chg c (fun a ha => Or.inl (by unfold cW; rcases ha with z | z <;> rw [z] <;> omega)) (fun a ha => by
    rcases ha with z | z | z
    · exact Or.inl (by rw [z]; unfold cW; omega)
    · exact Or.inl (by rw [z]; unfold cW; omega)
    · rcases Nat.lt_or_ge t b with q | q
      · exact Or.inl (by rw [z, ← I3 t q, t2]; unfold cW; omega)
      · exact Or.inr (by rw [z]; exact q))
  refine ⟨I0.chg c, ⟨c.gh I1.1, c.gg I1.2.1, c.gh I1.2.2.1, fun j u hj hu => ?_⟩, I2.trans Fr, I3, ⟨w1, w2, w3, w4, w5, w6, w7, w8, w9, w10, w11, w12, w13, w14⟩, ?_, fun j hj => ?_, ?_, ?_⟩
  · rw [c.2.2.2.1] at hu
    have := I1.2.2.2 j u hj hu
    exact ⟨c.gh this.1, this.2⟩
  · rw [c.gi (fun z => z.elim nf1 nf2)]; exact I5
  · by_cases q : j = k
    · rw [q, up_same]
      exact ⟨t, c.gg ht, hF⟩
    · rw [up_ne _ _ q]
      have jh : j < h := by
        rcases hh j hj with z | z
        · exact z
        · exact absurd z q
      obtain ⟨u, u1, u2⟩ := I6 j jh
      have uo := (I1.2.2.2 j u (by omega) u1).2
      refine ⟨u, c.gg u1, ?_⟩
      rw [c.gj (fun z => ?_)]
      · exact u2
      · rcases z with z | z | z
        · rw [z, I3 sp w7, w3] at uo; omega
        · rw [z, I3 st w8, w4] at uo; omega
        · rw [z, t2] at uo; omega
  · unfold nnr; rw [c.2.2.2.1, c.1]; exact I7
  · unfold nnr; rw [c.2.2.2.1, c.2.1]; exact I8
theorem crow_R {k : Nat} (hb : b = lo Γ + hc σ0) (I : CRI b σ0 own0 al f1 f2 sp st ca ra τ own dp h S) (hk : k < 43) (hd : 1 ≤ d) : RQ Γ d MX1_row [.ref ca, .int (nI k)] τ (fun r τ' => ∃ t own', r = some t ∧ CRI b σ0 own0 al f1 f2 sp st ca ra τ' own' dp h S ∧ gr τ' ra k = some t ∧ (∀ j, j ≠ k → gr τ' ra j = gr τ ra j) ∧ (∀ a, a < lo Γ + hc τ → gj τ' a = gj τ a) ∧ (k < h → τ' = τ)) := by
  refine RUN.wf (fun W => ?_)
  refine (calcRow_R I.2.1.1 I.2.1.2.1 I.2.1.2.2.1 (by omega) hd).post (fun o τ' _ q => ?_)
  obtain ⟨r, rfl, t, rfl, q⟩ := q
  refine ⟨some t, rfl, t, ?_⟩
  rcases q with ⟨rfl, q⟩ | ⟨q1, q2, q3⟩
  · exact ⟨own, rfl, I, q, fun _ _ => rfl, fun _ _ => rfl, fun _ => rfl⟩
  · obtain ⟨I0, I1, I2, I3, I4, I5, I6, I7, I8⟩ := I
    have I4' := I4
    obtain ⟨w1, w2, w3, w4, w5, w6, w7, w8, w9, w10, w11, w12, w13, w14⟩ := I4'
    have kh : h ≤ k := by
      rcases Nat.lt_or_ge k h with z | z
      · obtain ⟨u, u1, u2⟩ := I6 k z
        rw [q1] at u1; exact absurd u1 (by simp)
      · exact z
    have hcle := I2.1
    have bt : b ≤ t := by omega
    have ta : ∀ a x, hs τ a = some x → a ≠ t := fun a x e => by rw [q2]; exact fresh_ne W e
    have n1 : ca ≠ t := ta _ _ I1.1
    have n2 : ra ≠ t := ta _ _ I1.2.2.1
    have n3 : ca ≠ ra := hs_ne I1.1 I1.2.2.1 (show (1 : Nat) ≠ 26 by decide)
    have gra : gr τ' ra = up (gr τ ra) k (some t) := by rw [q3, gr_setR_s, gr_mk_n _ _ _ n2]
    have Fr0 : FR (fun a => a = ra ∨ a = t) τ τ' := by
      rw [q3]
      refine FR.trans (σ1 := mk τ t 23 64) ?_ (FR.setR _ _ _ (Or.inl rfl))
      rw [q2]
      exact FR.mk 23 64 W (Or.inr rfl)
    have Fr : FR (RP cW own0 b) τ τ' := Fr0.mono (fun a ha => ha.elim (fun z => Or.inl (by rw [z, w6]; unfold cW; omega)) (fun z => Or.inr (by omega)))
    have nal : al ≠ ra := hs_ne I0.1 I1.2.2.1 (show (0 : Nat) ≠ 26 by decide)
    refine ⟨up own t (100 + k), rfl, ⟨I0.fr Fr0 (fun z => z.elim nal (ta _ _ I0.1)), ⟨Fr0.gh I1.1, ?_, Fr0.gh I1.2.2.1, fun j u hj hu => ?_⟩, I2.trans Fr, fun a ha => by rw [up_ne _ _ (by omega)]; exact I3 a ha, I4, ?_, fun j hj => ?_, ?_, ?_⟩, by rw [gra, up_same], fun j hj => by rw [gra, up_ne _ _ hj], fun a ha => ?_, fun z => absurd z (by omega)⟩
    · rw [Fr0.gr (fun z => z.elim n3 n1)]; exact I1.2.1
    · rw [gra] at hu
      by_cases z : j = k
      · rw [z, up_same] at hu
        have hu := (Option.some.inj hu).symm
        subst hu
        rw [up_same, z]
        refine ⟨?_, rfl⟩
        rw [q3]
        exact hs_mk_s _ _ _ _
      · rw [up_ne _ _ z] at hu
        have := I1.2.2.2 j u hj hu
        rw [up_ne _ _ (ta _ _ this.1)]
        exact ⟨Fr0.gh this.1, this.2⟩
    · rw [Fr0.gi (fun z => z.elim n3 n1)]; exact I5
    · obtain ⟨u, u1, u2⟩ := I6 j hj
      refine ⟨u, by rw [gra, up_ne _ _ (by omega)]; exact u1, ?_⟩
      have u3 := (I1.2.2.2 j u (by omega) u1).1
      rw [Fr0.gj (fun z => z.elim (hs_ne u3 I1.2.2.1 (show (23 : Nat) ≠ 26 by decide)) (ta _ _ u3))]; exact u2
    · have e : nnr τ' ra + 1 = nnr τ ra := by
        have := ctp_upd (P := fun j => gr τ ra j = none) (Q := fun j => gr τ' ra j = none) (n := 43) (a := k) (by omega) (fun j _ hj => by rw [gra, up_ne _ _ hj])
        rw [if_pos (bd_true.mpr q1), if_neg (by rw [bd_false.mpr (by rw [gra, up_same]; simp)]; decide)] at this
        exact this
      have e2 : hc τ' = hc τ + 1 := by rw [q3]; rfl
      omega
    · have e : nnr τ' ra + 1 = nnr τ ra := by
        have := ctp_upd (P := fun j => gr τ ra j = none) (Q := fun j => gr τ' ra j = none) (n := 43) (a := k) (by omega) (fun j _ hj => by rw [gra, up_ne _ _ hj])
        rw [if_pos (bd_true.mpr q1), if_neg (by rw [bd_false.mpr (by rw [gra, up_same]; simp)]; decide)] at this
        exact this
      have e2 : hv τ' = hv τ + 64 := by rw [q3]; rfl
      omega
    · rw [q3]
      show gj (mk τ t 23 64) a = gj τ a
      exact gj_mk_n τ 23 64 (by omega)
theorem fam_fill {r g : Nat → Int64} : fam (fl (fun _ => (0 : Int64)) g 64) = zf := fam_ext sup_zf (fun m hm => by
  rw [bs_fl hm]; exact w_zero _)
theorem cpush_R (hb : b = lo Γ + hc σ0) (I : CRI b σ0 own0 al f1 f2 sp st ca ra τ own h h S) (hh : h < 43) (hd : 2 ≤ d) : RQ Γ d MX1_push [.ref ca] τ (fun r τ' => ∃ t own', r = some t ∧ CRI b σ0 own0 al f1 f2 sp st ca ra τ' own' (h + 1) (h + 1) (up S h zf) ∧ gr τ' ra h = some t ∧ gj τ' t = fl (fun _ => 0) (gj τ' t) 64) := by
  refine eX1_push ⟨I.2.1.1, ?_⟩
  rw [I.2.2.2.2.2.1]
  refine CR.of (d2 := 1) (crow_R hb I hh (by omega)) (by omega) (fun r σ2 hw q => ?_)
  obtain ⟨t, own', rfl, I2, g2, -, -, -⟩ := q
  refine ⟨t, rfl, CV.of (d2 := 0) (fill_R 0 (I2.2.1.2.2.2 h t hh g2).1 (by omega)) (by omega) (fun σ4 _ e4 => ?_)⟩
  have I4 : CRI b σ0 own0 al f1 f2 sp st ca ra σ4 own' h (h + 1) (up S h zf) := I2.wr hh g2 (by omega) (by rw [e4]; exact Chg.rowJ _ _ (Or.inr (Or.inr rfl))) (by rw [e4, gj_row]; exact fam_fill (r := fun _ => 0)) (fun j hj => by omega)
  refine ⟨I4.2.1.1, fun σ7 e7 => ?_⟩
  rw [I4.2.2.2.2.2.1, nI_1] at e7
  refine ⟨some t, rfl, t, own', rfl, I4.dep e7, ?_, ?_⟩
  · rw [e7]
    show gr σ4 ra h = _
    rw [e4]; exact g2
  · rw [e7]
    show gj σ4 t = fl (fun _ => 0) (gj σ4 t) 64
    rw [e4, gj_row, fl_fl]
theorem cpushSet_k {m t : Nat} {own' : Nat → Nat} {τ' τ2 : AH} (I : CRI b σ0 own0 al f1 f2 sp st ca ra τ' own' (h + 1) (h + 1) (up S h zf)) (g : gr τ' ra h = some t) (gz : gj τ' t = fl (fun _ => 0) (gj τ' t) 64) (hh : h < 43) (hm : m < 4096) (e : τ2 = rowJ τ' t (rput (gj τ' t) m)) : CRI b σ0 own0 al f1 f2 sp st ca ra τ2 own' (h + 1) (h + 1) (up S h (sngF m)) := by
  have := I.wr (τ' := τ2) (k := h) (h' := h + 1) (F := sngF m) hh g (by omega) (by rw [e]; exact Chg.rowJ _ _ (Or.inr (Or.inr rfl))) (by
    rw [e, gj_row]
    refine fam_ext (sngF_sup hm) (fun x hx => ?_)
    rw [bs_rput, gz, bs_fl hx]
    show (wb 0 _ || decide (x = m)) = decide (x = m)
    rw [w_zero, Bool.false_or]) (fun j hj => Or.inl hj)
  have e2 : up (up S h zf) h (sngF m) = up S h (sngF m) := by
    funext j
    unfold up
    split <;> rfl
  rw [e2] at this; exact this
end CA
