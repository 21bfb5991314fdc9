/-! THE LAW, from the choice of an operation to its result in the store. -/
/-- how the law ends -/
def QF (oc : Oc) (σ' : AH) : Prop := oc = .inl (some (.int 1)) ∧ hc σ' ≤ 600086 ∧ hv σ' ≤ 7301442
theorem oeq {o c : Nat} (h : o < 100) (hc : c < 100) : nI o = nI c ↔ o = c := nI_eq (by omega) (by omega)
theorem ole {o c : Nat} (h : o < 100) (hc : c < 100) : nI o ≤ nI c ↔ o ≤ c := nI_leI (by omega) (by omega)
/-- the operands as the class has them -/
def f9 (o : Nat) (f : Int64) : Int64 := if o = 9 then f &&& (-2) else f
def g5 (o : Nat) (g : Int64) : Int64 := if o = 5 then g ||| 1 else g
theorem f9_n {o : Nat} {f : Int64} (h : o ≠ 9) : f9 o f = f := if_neg h
theorem g5_n {o : Nat} {g : Int64} (h : o ≠ 5) : g5 o g = g := if_neg h
theorem g5_0 {o : Nat} {g : Int64} (h : o = 4 → g ≠ 0) (h2 : o = 4 ∨ o = 5) : g5 o g ≠ 0 := by
  rcases h2 with z | z
  · rw [g5_n (by omega)]; exact h z
  · unfold g5
    rw [if_pos z]
    intro e
    have := congrArg (fun x => wb x 0) e
    simp only [w_or, w_1, w_zero] at this
    simp at this
/-- r is the table that the operation o makes of f and g -/
def O5 (o : Nat) (f g r : Int64) : Prop := o ≤ 5 → opF (o + 1) (wb (f9 o f)) (wb (g5 o g)) = wb r
def O7 (o : Nat) (f r : Int64) : Prop := (o = 6 → opF 11 (wb f) (wb f) = wb r) ∧ (o = 7 → opF 10 (wb f) (wb f) = wb r)
def O9 (o : Nat) (f r : Int64) : Prop := 7 < o → opF 12 (wb (f9 o f)) (wb (f9 o f)) = wb r
section OPA
variable {Γ : Gm} {σ : AH} {ad : Nat → Nat} {sc nu fa m k y a b o : Nat} {f g r : Int64}
theorem a322 {s : Int64} (K : ∀ r, O9 o f r → EV Γ ML_law 13 327 [some (.ref sc), some (.ref (ad 0)), some (.ref nu), some (.ref fa), some (.int (nI m)), some (.int (nI k)), none, none, some (.int (nI y)), some (.int (nI a)), some (.int (nI b)), none, none, none, none, some (.int (nI o)), some (.long r), none, none, none, none] [] σ QF) (hs : s = f9 o f) (h7 : 7 < o) : EV Γ ML_law 13 322 [some (.ref sc), some (.ref (ad 0)), some (.ref nu), some (.ref fa), some (.int (nI m)), some (.int (nI k)), none, none, some (.int (nI y)), some (.int (nI a)), some (.int (nI b)), none, none, none, none, some (.int (nI o)), none, none, none, none, none] [.long s] σ QF := by
  refine gL_law_322 (CJ.of (d2 := 2) (hitting_L (by omega)) (by omega) (fun r σ1 _ e => ?_))
  obtain ⟨rfl, x, h1, h2⟩ := e
  exact K r (fun _ => by rw [← hs]; exact sem_hit h1 h2 _)
theorem a297 (ho : o < 10) (r0 : Int64) (K : ∀ r, (o ≤ 7 → r = r0) → O9 o f r → EV Γ ML_law 13 327 [some (.ref sc), some (.ref (ad 0)), some (.ref nu), some (.ref fa), some (.int (nI m)), some (.int (nI k)), none, none, some (.int (nI y)), some (.int (nI a)), some (.int (nI b)), none, none, none, none, some (.int (nI o)), some (.long r), none, none, none, none] [] σ QF) : EV Γ ML_law 13 297 [some (.ref sc), some (.ref (ad 0)), some (.ref nu), some (.ref fa), some (.int (nI m)), some (.int (nI k)), none, none, some (.int (nI y)), some (.int (nI a)), some (.int (nI b)), some (.long f), none, none, none, some (.int (nI o)), some (.long r0), none, none, none, none] [] σ QF := by
  refine gL_law_297 ⟨fun z => K r0 (fun _ => rfl) (fun h => absurd ((ole (c := 7) (by omega) (by omega)).mp z) (by omega)), fun z => ?_⟩
  have h7 : 7 < o := by
    rcases Nat.lt_or_ge 7 o with q | q
    · exact q
    · exact absurd ((ole (c := 7) (by omega) (by omega)).mpr q) z
  refine ⟨fun n => ?_, fun e => ?_⟩
  · have : o ≠ 8 := fun q => n (by rw [q]; rfl)
    exact a322 (fun r h => K r (fun q => by omega) h) (by unfold f9; rw [if_pos (by omega)]) h7
  · have : o = 8 := (oeq (c := 8) (by omega) (by omega)).mp e
    exact a322 (fun r h => K r (fun q => by omega) h) (by unfold f9; rw [if_neg (by omega)]) h7
theorem a292 {s : Int32} (K : ∀ r, O7 o f r → EV Γ ML_law 13 297 [some (.ref sc), some (.ref (ad 0)), some (.ref nu), some (.ref fa), some (.int (nI m)), some (.int (nI k)), none, none, some (.int (nI y)), some (.int (nI a)), some (.int (nI b)), some (.long f), none, none, none, some (.int (nI o)), some (.long r), none, none, none, none] [] σ QF) (hs : (o = 6 ∧ s = 1) ∨ (o = 7 ∧ s = 0)) : EV Γ ML_law 13 292 [some (.ref sc), some (.ref (ad 0)), some (.ref nu), some (.ref fa), some (.int (nI m)), some (.int (nI k)), none, none, some (.int (nI y)), some (.int (nI a)), some (.int (nI b)), some (.long f), none, none, none, some (.int (nI o)), none, none, none, none, none] [.int s, .long f] σ QF := by
  refine gL_law_292 (CJ.of (d2 := 1) (extreme_L (by omega)) (by omega) (fun r σ1 _ e => ?_))
  obtain ⟨rfl, h1⟩ := e
  rcases hs with ⟨h, rfl⟩ | ⟨h, rfl⟩
  · exact K r ⟨fun _ => sem_min h1 _, fun q => by omega⟩
  · exact K r ⟨fun q => by omega, fun _ => sem_max h1 _⟩
theorem a278 (K : ∀ r, O7 o f r → EV Γ ML_law 13 297 [some (.ref sc), some (.ref (ad 0)), some (.ref nu), some (.ref fa), some (.int (nI m)), some (.int (nI k)), none, none, some (.int (nI y)), some (.int (nI a)), some (.int (nI b)), some (.long f), none, none, none, some (.int (nI o)), some (.long r), none, none, none, none] [] σ QF) (ho : o = 6 ∨ o = 7) : EV Γ ML_law 13 278 [some (.ref sc), some (.ref (ad 0)), some (.ref nu), some (.ref fa), some (.int (nI m)), some (.int (nI k)), none, none, some (.int (nI y)), some (.int (nI a)), some (.int (nI b)), some (.long f), none, none, none, some (.int (nI o)), none, none, none, none, none] [] σ QF := by
  refine gL_law_278 ⟨fun n => ?_, fun e => ?_⟩
  · refine a292 K (Or.inr ⟨?_, rfl⟩)
    rcases ho with h | h
    · exact absurd (by rw [h]; rfl) n
    · exact h
  · exact a292 K (Or.inl ⟨(oeq (c := 6) (by omega) (by omega)).mp e, rfl⟩)
theorem a264 (ho : o < 10) (r0 : Int64) (K : ∀ r, (o ≠ 6 → o ≠ 7 → r = r0) → O7 o f r → EV Γ ML_law 13 297 [some (.ref sc), some (.ref (ad 0)), some (.ref nu), some (.ref fa), some (.int (nI m)), some (.int (nI k)), none, none, some (.int (nI y)), some (.int (nI a)), some (.int (nI b)), some (.long f), none, none, none, some (.int (nI o)), some (.long r), none, none, none, none] [] σ QF) : EV Γ ML_law 13 264 [some (.ref sc), some (.ref (ad 0)), some (.ref nu), some (.ref fa), some (.int (nI m)), some (.int (nI k)), none, none, some (.int (nI y)), some (.int (nI a)), some (.int (nI b)), some (.long f), none, none, none, some (.int (nI o)), some (.long r0), none, none, none, none] [] σ QF := by
  refine gL_law_264 ⟨fun e => ?_, fun n => ⟨fun n2 => ?_, fun e => ?_⟩⟩
  · have h : o = 6 := (oeq (c := 6) (by omega) (by omega)).mp e
    exact a278 (fun r z => K r (fun q => absurd h q) z) (Or.inl h)
  · have h6 : o ≠ 6 := fun q => n (by rw [q]; rfl)
    have h7 : o ≠ 7 := fun q => n2 (by rw [q]; rfl)
    exact K r0 (fun _ _ => rfl) ⟨fun q => absurd q h6, fun q => absurd q h7⟩
  · have h : o = 7 := (oeq (c := 7) (by omega) (by omega)).mp e
    exact a278 (fun r z => K r (fun _ q => absurd h q) z) (Or.inr h)
theorem a231 {s : Int64} (ho : o < 10) (hs : o ≤ 4 → O5 o f g s) (K : ∀ r, O5 o f g r → EV Γ ML_law 13 264 [some (.ref sc), some (.ref (ad 0)), some (.ref nu), some (.ref fa), some (.int (nI m)), some (.int (nI k)), none, none, some (.int (nI y)), some (.int (nI a)), some (.int (nI b)), some (.long f), none, none, none, some (.int (nI o)), some (.long r), none, none, none, none] [] σ QF) : EV Γ ML_law 13 231 [some (.ref sc), some (.ref (ad 0)), some (.ref nu), some (.ref fa), some (.int (nI m)), some (.int (nI k)), none, none, some (.int (nI y)), some (.int (nI a)), some (.int (nI b)), some (.long f), none, some (.long g), none, some (.int (nI o)), none, none, none, none, none] [.long s] σ QF := by
  refine gL_law_231 ⟨fun n => ?_, fun e => ?_⟩
  · have h5 : o ≠ 5 := fun q => n (by rw [q]; rfl)
    exact K s (fun q => hs (by omega) q)
  · have h : o = 5 := (oeq (c := 5) (by omega) (by omega)).mp e
    refine CJ.of (d2 := 1) (quotient_L (by omega)) (by omega) (fun q σ1 _ e1 => ?_)
    obtain ⟨rfl, h1⟩ := e1
    refine CJ.of (d2 := 1) (join_L (by omega)) (by omega) (fun j σ2 _ e2 => ?_)
    obtain ⟨rfl, h2⟩ := e2
    have hg : g5 o g ≠ 0 := g5_0 (fun q => by omega) (Or.inr h)
    have e5 : g5 o g = g ||| 1 := if_pos h
    refine K _ (fun _ => ?_)
    rw [f9_n (by omega), e5, h]
    rw [e5] at hg
    exact sem_rem h1 hg h2
theorem a153 (ho : o < 10) (h4 : o = 4 → g ≠ 0) (K : ∀ r, O5 o f g r → EV Γ ML_law 13 264 [some (.ref sc), some (.ref (ad 0)), some (.ref nu), some (.ref fa), some (.int (nI m)), some (.int (nI k)), none, none, some (.int (nI y)), some (.int (nI a)), some (.int (nI b)), some (.long f), none, none, none, some (.int (nI o)), some (.long r), none, none, none, none] [] σ QF) : EV Γ ML_law 13 153 [some (.ref sc), some (.ref (ad 0)), some (.ref nu), some (.ref fa), some (.int (nI m)), some (.int (nI k)), none, none, some (.int (nI y)), some (.int (nI a)), some (.int (nI b)), some (.long f), none, some (.long g), none, some (.int (nI o)), none, none, none, none, none] [] σ QF := by
  refine gL_law_153 ⟨fun n0 => ⟨fun n1 => ⟨fun n2 => ⟨fun n3 => ⟨fun n4 => ?_, fun e => ?_⟩, fun e => ?_⟩, fun e => ?_⟩, fun e => ?_⟩, fun e => ?_⟩
  · have c0 : o ≠ 0 := fun q => n0 (by rw [q]; rfl)
    have c1 : o ≠ 1 := fun q => n1 (by rw [q]; rfl)
    have c2 : o ≠ 2 := fun q => n2 (by rw [q]; rfl)
    have c3 : o ≠ 3 := fun q => n3 (by rw [q]; rfl)
    have c4 : o ≠ 4 := fun q => n4 (by rw [q]; rfl)
    exact a231 ho (fun q => by omega) K
  · have h : o = 4 := (oeq (c := 4) (by omega) (by omega)).mp e
    refine CJ.of (d2 := 1) (quotient_L (by omega)) (by omega) (fun q σ1 _ e1 => ?_)
    obtain ⟨rfl, h1⟩ := e1
    refine a231 ho (fun _ _ => ?_) K
    rw [f9_n (by omega), g5_n (by omega), h]
    exact sem_quot h1 (h4 h)
  · have h : o = 3 := (oeq (c := 3) (by omega) (by omega)).mp e
    refine CJ.of (d2 := 1) (join_L (by omega)) (by omega) (fun q σ1 _ e1 => ?_)
    obtain ⟨rfl, h1⟩ := e1
    refine a231 ho (fun _ _ => ?_) K
    rw [f9_n (by omega), g5_n (by omega), h]
    exact sem_join h1
  · have h : o = 2 := (oeq (c := 2) (by omega) (by omega)).mp e
    refine a231 ho (fun _ _ => ?_) K
    rw [f9_n (by omega), g5_n (by omega), h]
    exact sem_inter f g
  · have h : o = 1 := (oeq (c := 1) (by omega) (by omega)).mp e
    refine a231 ho (fun _ _ => ?_) K
    rw [f9_n (by omega), g5_n (by omega), h]
    exact sem_diff f g
  · have h : o = 0 := (oeq (c := 0) (by omega) (by omega)).mp e
    refine a231 ho (fun _ _ => ?_) K
    rw [f9_n (by omega), g5_n (by omega), h]
    exact sem_union f g
/-- the whole choice: at 327 the table stands -/
theorem b153 (ho : o < 10) (h4 : o = 4 → g ≠ 0) (K : ∀ r, O5 o f g r → O7 o f r → O9 o f r → EV Γ ML_law 13 327 [some (.ref sc), some (.ref (ad 0)), some (.ref nu), some (.ref fa), some (.int (nI m)), some (.int (nI k)), none, none, some (.int (nI y)), some (.int (nI a)), some (.int (nI b)), none, none, none, none, some (.int (nI o)), some (.long r), none, none, none, none] [] σ QF) : EV Γ ML_law 13 153 [some (.ref sc), some (.ref (ad 0)), some (.ref nu), some (.ref fa), some (.int (nI m)), some (.int (nI k)), none, none, some (.int (nI y)), some (.int (nI a)), some (.int (nI b)), some (.long f), none, some (.long g), none, some (.int (nI o)), none, none, none, none, none] [] σ QF := by
  refine a153 ho h4 (fun r0 h5 => ?_)
  refine a264 ho r0 (fun r1 e1 h7 => ?_)
  refine a297 ho r1 (fun r e h9 => K r ?_ ?_ h9)
  · intro q
    have e2 : r = r0 := (e (by omega)).trans (e1 (by omega) (by omega))
    rw [e2]; exact h5 q
  · refine ⟨fun q => ?_, fun q => ?_⟩
    · rw [e (by omega)]; exact h7.1 q
    · rw [e (by omega)]; exact h7.2 q
end OPA
/-- a result in the store: not one of the numbers of before -/
def RES (S0 S : StT) (r : Int64) (c : Nat) : Prop := sN S0 ≤ c ∧ okv S c = true ∧ sF S c = wb r
/-- e calls behind S0 -/
def STG (Γ : Gm) (ad : Nat → Nat) (sc n nu fa : Nat) (gn : Nat → Int32) (gf : Nat → Int64) (S0 : StT) (T R e : Nat) (S : StT) (σ : AH) : Prop := LT Γ ad sc n nu fa gn gf S (T + e) R σ ∧ Ext S0 S ∧ sN S ≤ sN S0 + e ∧ sN S0 + 20 ≤ 200
section OPB
variable {Γ : Gm} {d : Nat} {σ : AH} {ad : Nat → Nat} {sc n nu fa : Nat} {gn : Nat → Int32} {gf : Nat → Int64} {S0 S : StT} {T R e m k y a b o : Nat} {f g r : Int64}
theorem STG.more {e' : Nat} (h : STG Γ ad sc n nu fa gn gf S0 T R e S σ) (he : e ≤ e') : STG Γ ad sc n nu fa gn gf S0 T R e' S σ := ⟨h.1.more (by omega), h.2.1, by have := h.2.2.1; omega, h.2.2.2⟩
theorem STG.lt (h : STG Γ ad sc n nu fa gn gf S0 T R e S σ) (he : e < 20) : sN S < 200 := by
  obtain ⟨-, -, z1, z2⟩ := h
  omega
theorem stg_add {M : MI} {vs : List Value} {l : List String} {A : AnsT} {F : Nat → Bool} {K : Int32 → AH → Prop} {KX : String → AH → Prop} (h : STG Γ ad sc n nu fa gn gf S0 T R e S σ) (H : ∀ own c w, RepC Γ σ own ad S c w → CLM Γ 11 M vs σ own ad c w l A) (hA : A = (0, nI (sN S), stA S F)) (hd : 12 ≤ d) (k : ∀ σ1, STG Γ ad sc n nu fa gn gf S0 T R (e + 1) (stA S F) σ1 → okv (stA S F) (sN S) = true → sF (stA S F) (sN S) = F → sN S0 ≤ sN S → K (nI (sN S)) σ1) : CI Γ d M vs σ K KX :=
  lt_add h.1 H hA (fun σ1 h1 o1 f1 => k σ1 ⟨h1, h.2.1.trans (Ext.add _), by show sN S + 1 ≤ _; have := h.2.2.1; omega, h.2.2.2⟩ o1 f1 h.2.1.1) hd
theorem a507 {vc : Int32} (h : STG Γ ad sc n nu fa gn gf S0 T R e S σ) (he : e < 19) (ho : o < 10) (hA : okv S a = true ∧ sF S a = wb (f9 o f)) (h9 : O9 o f r) (v : o ≤ 7 → ∃ c, vc = nI c ∧ RES S0 S r c) (K : ∀ σ S c, STG Γ ad sc n nu fa gn gf S0 T R (e + 1) S σ → RES S0 S r c → EV Γ ML_law 13 522 [some (.ref sc), some (.ref (ad 0)), some (.ref nu), some (.ref fa), some (.int (nI m)), some (.int (nI k)), none, none, some (.int (nI y)), none, none, none, none, none, none, none, some (.long r), none, some (.int (nI c)), none, none] [] σ QF) : EV Γ ML_law 13 507 [some (.ref sc), some (.ref (ad 0)), some (.ref nu), some (.ref fa), some (.int (nI m)), some (.int (nI k)), none, none, some (.int (nI y)), some (.int (nI a)), none, none, none, none, none, some (.int (nI o)), some (.long r), none, some (.int vc), none, none] [] σ QF := by
  refine gL_law_507 ⟨fun z => ?_, fun z => ⟨h.1.co, ?_⟩⟩
  · obtain ⟨c, rfl, rs⟩ := v ((ole (c := 7) (by omega) (by omega)).mp z)
    exact K σ S c (h.more (by omega)) rs
  · have h7 : 7 < o := by
      rcases Nat.lt_or_ge 7 o with q | q
      · exact q
      · exact absurd ((ole (c := 7) (by omega) (by omega)).mpr q) z
    refine stg_add h (fun own c w R0 => hitting_C R0 (Nat.le_refl 11)) (one_0 hA.1 (h.lt (by omega))) (by omega) (fun σ1 h1 o1 f1 le => K σ1 _ (sN S) h1 ⟨le, o1, f1.trans ?_⟩)
    rw [hA.2]; exact h9 h7
theorem a469 {vc : Int32} (h : STG Γ ad sc n nu fa gn gf S0 T R e S σ) (he : e < 18) (ho : o < 10) (hA : okv S a = true ∧ sF S a = wb (f9 o f)) (h7 : O7 o f r) (h9 : O9 o f r) (v : o ≤ 5 → ∃ c, vc = nI c ∧ RES S0 S r c) (K : ∀ σ S c, STG Γ ad sc n nu fa gn gf S0 T R (e + 2) S σ → RES S0 S r c → EV Γ ML_law 13 522 [some (.ref sc), some (.ref (ad 0)), some (.ref nu), some (.ref fa), some (.int (nI m)), some (.int (nI k)), none, none, some (.int (nI y)), none, none, none, none, none, none, none, some (.long r), none, some (.int (nI c)), none, none] [] σ QF) : EV Γ ML_law 13 469 [some (.ref sc), some (.ref (ad 0)), some (.ref nu), some (.ref fa), some (.int (nI m)), some (.int (nI k)), none, none, some (.int (nI y)), some (.int (nI a)), none, none, none, none, none, some (.int (nI o)), some (.long r), none, some (.int vc), none, none] [] σ QF := by
  have go : (o = 6 ∨ o = 7) → EV Γ ML_law 13 483 [some (.ref sc), some (.ref (ad 0)), some (.ref nu), some (.ref fa), some (.int (nI m)), some (.int (nI k)), none, none, some (.int (nI y)), some (.int (nI a)), none, none, none, none, none, some (.int (nI o)), some (.long r), none, none, none, none] [] σ QF := by
    intro h67
    refine gL_law_483 ⟨fun n => ⟨h.1.co, ?_⟩, fun z => ⟨h.1.co, ?_⟩⟩
    · have e7 : o = 7 := by
        rcases h67 with q | q
        · exact absurd (by rw [q]; rfl) n
        · exact q
      refine stg_add h (fun own c w R0 => maximal_C R0 (Nat.le_refl 11)) (one_0 hA.1 (h.lt (by omega))) (by omega) (fun σ1 h1 o1 f1 le => ?_)
      refine a507 h1 (by omega) ho ((Ext.add _).ok hA.1 |>.imp id (fun q => q.trans hA.2)) h9 (fun _ => ⟨sN S, rfl, le, o1, f1.trans ?_⟩) (fun σ S c h => K σ S c h)
      rw [hA.2, f9_n (by omega)]; exact h7.2 e7
    · have e6 : o = 6 := (oeq (c := 6) (by omega) (by omega)).mp z
      refine stg_add h (fun own c w R0 => minimal_C R0 (Nat.le_refl 11)) (one_0 hA.1 (h.lt (by omega))) (by omega) (fun σ1 h1 o1 f1 le => ?_)
      refine a507 h1 (by omega) ho ((Ext.add _).ok hA.1 |>.imp id (fun q => q.trans hA.2)) h9 (fun _ => ⟨sN S, rfl, le, o1, f1.trans ?_⟩) (fun σ S c h => K σ S c h)
      rw [hA.2, f9_n (by omega)]; exact h7.1 e6
  refine gL_law_469 ⟨fun z => go (Or.inl ((oeq (c := 6) (by omega) (by omega)).mp z)), fun n => ⟨fun n2 => ?_, fun z => go (Or.inr ((oeq (c := 7) (by omega) (by omega)).mp z))⟩⟩
  have h6 : o ≠ 6 := fun q => n (by rw [q]; rfl)
  have h7' : o ≠ 7 := fun q => n2 (by rw [q]; rfl)
  exact a507 (h.more (e' := e + 1) (by omega)) (by omega) ho hA h9 (fun q => v (by omega)) (fun σ S c h => K σ S c h)
theorem a451 {vc : Int32} (h : STG Γ ad sc n nu fa gn gf S0 T R e S σ) (he : e < 17) (ho : o < 10) (hA : okv S a = true ∧ sF S a = wb (f9 o f)) (hB : okv S b = true ∧ sF S b = wb (g5 o g)) (hg : g5 o g ≠ 0 ∨ o ≠ 5) (h5 : O5 o f g r) (h7 : O7 o f r) (h9 : O9 o f r) (v : o ≤ 4 → ∃ c, vc = nI c ∧ RES S0 S r c) (K : ∀ σ S c, STG Γ ad sc n nu fa gn gf S0 T R (e + 3) S σ → RES S0 S r c → EV Γ ML_law 13 522 [some (.ref sc), some (.ref (ad 0)), some (.ref nu), some (.ref fa), some (.int (nI m)), some (.int (nI k)), none, none, some (.int (nI y)), none, none, none, none, none, none, none, some (.long r), none, some (.int (nI c)), none, none] [] σ QF) : EV Γ ML_law 13 451 [some (.ref sc), some (.ref (ad 0)), some (.ref nu), some (.ref fa), some (.int (nI m)), some (.int (nI k)), none, none, some (.int (nI y)), some (.int (nI a)), some (.int (nI b)), none, none, none, none, some (.int (nI o)), some (.long r), none, none, none, none] [.int vc] σ QF := by
  refine gL_law_451 ⟨fun n => ?_, fun z => ⟨h.1.co, ?_⟩⟩
  · have n5 : o ≠ 5 := fun q => n (by rw [q]; rfl)
    exact a469 (h.more (e' := e + 1) (by omega)) (by omega) ho hA h7 h9 (fun q => v (by omega)) (fun σ S c h => K σ S c h)
  · have e5 : o = 5 := (oeq (c := 5) (by omega) (by omega)).mp z
    have nz : cntF (sF S b) ≠ 0 := by
      rw [hB.2]
      exact cnt_nz (hg.resolve_right (fun q => q e5))
    refine stg_add h (fun own c w R0 => remainder_C R0 (Nat.le_refl 11)) (two_0 hA.1 hB.1 (h.lt (by omega)) (fun _ => nz)) (by omega) (fun σ1 h1 o1 f1 le => ?_)
    refine a469 h1 (by omega) ho ((Ext.add _).ok hA.1 |>.imp id (fun q => q.trans hA.2)) h7 h9 (fun _ => ⟨sN S, rfl, le, o1, f1.trans ?_⟩) (fun σ S c h => K σ S c h)
    have := h5 (by omega)
    rw [hA.2, hB.2, ← this, e5]
theorem a366 (h : STG Γ ad sc n nu fa gn gf S0 T R e S σ) (he : e < 16) (ho : o < 10) (hA : okv S a = true ∧ sF S a = wb (f9 o f)) (hB : okv S b = true ∧ sF S b = wb (g5 o g)) (h4 : o = 4 → g ≠ 0) (h5 : O5 o f g r) (h7 : O7 o f r) (h9 : O9 o f r) (K : ∀ σ S c, STG Γ ad sc n nu fa gn gf S0 T R (e + 4) S σ → RES S0 S r c → EV Γ ML_law 13 522 [some (.ref sc), some (.ref (ad 0)), some (.ref nu), some (.ref fa), some (.int (nI m)), some (.int (nI k)), none, none, some (.int (nI y)), none, none, none, none, none, none, none, some (.long r), none, some (.int (nI c)), none, none] [] σ QF) : EV Γ ML_law 13 366 [some (.ref sc), some (.ref (ad 0)), some (.ref nu), some (.ref fa), some (.int (nI m)), some (.int (nI k)), none, none, some (.int (nI y)), some (.int (nI a)), some (.int (nI b)), none, none, none, none, some (.int (nI o)), some (.long r), none, none, none, none] [] σ QF := by
  have hg : g5 o g ≠ 0 ∨ o ≠ 5 := by
    by_cases q : o = 5
    · exact Or.inl (g5_0 h4 (Or.inr q))
    · exact Or.inr q
  have put : ∀ (M : MI) (l : List String), (∀ own c w, RepC Γ σ own ad S c w → CLM Γ 11 M [.ref (ad 0), .int (nI a), .int (nI b)] σ own ad c w l (aTwo (o + 1) S (nI a) (nI b))) → o ≤ 4 → CI Γ 13 M [.ref (ad 0), .int (nI a), .int (nI b)] σ (fun r7 σ6 => EV Γ ML_law 13 451 [some (.ref sc), some (.ref (ad 0)), some (.ref nu), some (.ref fa), some (.int (nI m)), some (.int (nI k)), none, none, some (.int (nI y)), some (.int (nI a)), some (.int (nI b)), none, none, none, none, some (.int (nI o)), some (.long r), none, none, none, none] [.int r7] σ6 QF) (fun E σ6 => QF (.inr E) σ6) := by
    intro M l H o4
    refine stg_add h H (two_0 hA.1 hB.1 (h.lt (by omega)) (fun q => ?_)) (by omega) (fun σ1 h1 o1 f1 le => ?_)
    · rw [hB.2]
      have o4 : o = 4 := by unfold isDv at q; omega
      exact cnt_nz (g5_0 h4 (Or.inl o4))
    · refine a451 h1 (by omega) ho ((Ext.add _).ok hA.1 |>.imp id (fun q => q.trans hA.2)) ((Ext.add _).ok hB.1 |>.imp id (fun q => q.trans hB.2)) hg h5 h7 h9 (fun _ => ⟨sN S, rfl, le, o1, f1.trans ?_⟩) (fun σ S c h => K σ S c h)
      rw [hA.2, hB.2]; exact h5 (by omega)
  refine gL_law_366 ⟨fun n0 => ⟨fun n1 => ⟨fun n2 => ⟨fun n3 => ⟨fun n4 => ?_, fun z => ⟨h.1.co, ?_⟩⟩, fun z => ⟨h.1.co, ?_⟩⟩, fun z => ⟨h.1.co, ?_⟩⟩, fun z => ⟨h.1.co, ?_⟩⟩, fun z => ⟨h.1.co, ?_⟩⟩
  · have c0 : o ≠ 0 := fun q => n0 (by rw [q]; rfl)
    have c1 : o ≠ 1 := fun q => n1 (by rw [q]; rfl)
    have c2 : o ≠ 2 := fun q => n2 (by rw [q]; rfl)
    have c3 : o ≠ 3 := fun q => n3 (by rw [q]; rfl)
    have c4 : o ≠ 4 := fun q => n4 (by rw [q]; rfl)
    exact a451 (h.more (e' := e + 1) (by omega)) (by omega) ho hA hB hg h5 h7 h9 (fun q => by omega) (fun σ S c h => K σ S c h)
  · have q : o = 4 := (oeq (c := 4) (by omega) (by omega)).mp z
    exact put _ _ (fun own c w R0 => by rw [q]; exact quotient_C R0 (Nat.le_refl 11)) (by omega)
  · have q : o = 3 := (oeq (c := 3) (by omega) (by omega)).mp z
    exact put _ _ (fun own c w R0 => by rw [q]; exact join_C R0 (Nat.le_refl 11)) (by omega)
  · have q : o = 2 := (oeq (c := 2) (by omega) (by omega)).mp z
    exact put _ _ (fun own c w R0 => by rw [q]; exact intersection_C R0 (Nat.le_refl 11)) (by omega)
  · have q : o = 1 := (oeq (c := 1) (by omega) (by omega)).mp z
    exact put _ _ (fun own c w R0 => by rw [q]; exact difference_C R0 (Nat.le_refl 11)) (by omega)
  · have q : o = 0 := (oeq (c := 0) (by omega) (by omega)).mp z
    exact put _ _ (fun own c w R0 => by rw [q]; exact union_C R0 (Nat.le_refl 11)) (by omega)
theorem a346 (h : STG Γ ad sc n nu fa gn gf S0 T R e S σ) (he : e < 14) (ho : o < 10) (hA : okv S a = true ∧ sF S a = wb f) (hB : okv S b = true ∧ sF S b = wb (g5 o g)) (h4 : o = 4 → g ≠ 0) (h5 : O5 o f g r) (h7 : O7 o f r) (h9 : O9 o f r) (K : ∀ σ S c, STG Γ ad sc n nu fa gn gf S0 T R (e + 6) S σ → RES S0 S r c → EV Γ ML_law 13 522 [some (.ref sc), some (.ref (ad 0)), some (.ref nu), some (.ref fa), some (.int (nI m)), some (.int (nI k)), none, none, some (.int (nI y)), none, none, none, none, none, none, none, some (.long r), none, some (.int (nI c)), none, none] [] σ QF) : EV Γ ML_law 13 346 [some (.ref sc), some (.ref (ad 0)), some (.ref nu), some (.ref fa), some (.int (nI m)), some (.int (nI k)), none, none, some (.int (nI y)), some (.int (nI a)), some (.int (nI b)), none, none, none, none, some (.int (nI o)), some (.long r), none, none, none, none] [] σ QF := by
  refine gL_law_346 ⟨fun n => ?_, fun z => ⟨h.1.co, ?_⟩⟩
  · have n9 : o ≠ 9 := fun q => n (by rw [q]; rfl)
    exact a366 (h.more (e' := e + 2) (by omega)) (by omega) ho (by rw [f9_n n9]; exact hA) hB h4 h5 h7 h9 (fun σ S c h => K σ S c h)
  · have e9 : o = 9 := (oeq (c := 9) (by omega) (by omega)).mp z
    refine stg_add h (fun own c w R0 => single_R R0 (by omega)) (sng_0 (m := 0) (by omega) (h.lt (by omega))) (by omega) (fun σ2 h2 o2 f2 le => ⟨h2.1.co, ?_⟩)
    have hA2 := (Ext.add (S := S) (sngF 0)).ok hA.1
    have hB2 := (Ext.add (S := S) (sngF 0)).ok hB.1
    refine stg_add h2 (fun own c w R0 => difference_C R0 (Nat.le_refl 11)) (two_0 hA2.1 o2 (h2.lt (by omega)) (fun q => by unfold isDv at q; omega)) (by omega) (fun σ5 h5' o5 f5 le5 => ?_)
    refine a366 h5' (by omega) ho ⟨o5, f5.trans ?_⟩ ((Ext.add _).ok hB2.1 |>.imp id (fun q => q.trans (hB2.2.trans hB.2))) h4 h5 h7 h9 (fun σ S c h => K σ S c h)
    rw [hA2.2, hA.2, f2, sng0, sem_diff, m2]
    unfold f9
    rw [if_pos e9]
theorem a327 (h : STG Γ ad sc n nu fa gn gf S0 T R e S σ) (he : e < 12) (ho : o < 10) (hA : okv S a = true ∧ sF S a = wb f) (hB : okv S b = true ∧ sF S b = wb g) (h4 : o = 4 → g ≠ 0) (h5 : O5 o f g r) (h7 : O7 o f r) (h9 : O9 o f r) (K : ∀ σ S c, STG Γ ad sc n nu fa gn gf S0 T R (e + 8) S σ → RES S0 S r c → EV Γ ML_law 13 522 [some (.ref sc), some (.ref (ad 0)), some (.ref nu), some (.ref fa), some (.int (nI m)), some (.int (nI k)), none, none, some (.int (nI y)), none, none, none, none, none, none, none, some (.long r), none, some (.int (nI c)), none, none] [] σ QF) : EV Γ ML_law 13 327 [some (.ref sc), some (.ref (ad 0)), some (.ref nu), some (.ref fa), some (.int (nI m)), some (.int (nI k)), none, none, some (.int (nI y)), some (.int (nI a)), some (.int (nI b)), none, none, none, none, some (.int (nI o)), some (.long r), none, none, none, none] [] σ QF := by
  refine gL_law_327 ⟨fun n => ?_, fun z => ⟨h.1.co, ?_⟩⟩
  · have n5 : o ≠ 5 := fun q => n (by rw [q]; rfl)
    exact a346 (h.more (e' := e + 2) (by omega)) (by omega) ho hA (by rw [g5_n n5]; exact hB) h4 h5 h7 h9 (fun σ S c h => K σ S c h)
  · have e5 : o = 5 := (oeq (c := 5) (by omega) (by omega)).mp z
    refine stg_add h (fun own c w R0 => single_R R0 (by omega)) (sng_0 (m := 0) (by omega) (h.lt (by omega))) (by omega) (fun σ2 h2 o2 f2 le => ⟨h2.1.co, ?_⟩)
    have hA2 := (Ext.add (S := S) (sngF 0)).ok hA.1
    have hB2 := (Ext.add (S := S) (sngF 0)).ok hB.1
    refine stg_add h2 (fun own c w R0 => union_C R0 (Nat.le_refl 11)) (two_0 hB2.1 o2 (h2.lt (by omega)) (fun q => by unfold isDv at q; omega)) (by omega) (fun σ5 h5' o5 f5 le5 => ?_)
    refine a346 h5' (by omega) ho ((Ext.add _).ok hA2.1 |>.imp id (fun q => q.trans (hA2.2.trans hA.2))) ⟨o5, f5.trans ?_⟩ h4 h5 h7 h9 (fun σ S c h => K σ S c h)
    rw [hB2.2, hB.2, f2, sng0, sem_union]
    unfold g5
    rw [if_pos e5]
/-- the operation as a whole -/
theorem c153 (h : STG Γ ad sc n nu fa gn gf S0 T R 0 S σ) (ho : o < 10) (hA : okv S a = true ∧ sF S a = wb f) (hB : okv S b = true ∧ sF S b = wb g) (h4 : o = 4 → g ≠ 0) (K : ∀ r σ S c, STG Γ ad sc n nu fa gn gf S0 T R 8 S σ → RES S0 S r c → EV Γ ML_law 13 522 [some (.ref sc), some (.ref (ad 0)), some (.ref nu), some (.ref fa), some (.int (nI m)), some (.int (nI k)), none, none, some (.int (nI y)), none, none, none, none, none, none, none, some (.long r), none, some (.int (nI c)), none, none] [] σ QF) : EV Γ ML_law 13 153 [some (.ref sc), some (.ref (ad 0)), some (.ref nu), some (.ref fa), some (.int (nI m)), some (.int (nI k)), none, none, some (.int (nI y)), some (.int (nI a)), some (.int (nI b)), some (.long f), none, some (.long g), none, some (.int (nI o)), none, none, none, none, none] [] σ QF :=
  b153 ho h4 (fun r h5 h7 h9 => a327 h (by omega) ho hA hB h4 h5 h7 h9 (fun σ S c h => K r σ S c h))
end OPB
