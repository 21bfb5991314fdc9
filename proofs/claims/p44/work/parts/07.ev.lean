/-! THE JUDGEMENT. -/
/-- a method: its name, its code, how many locals, what it returns, its handlers -/
abbrev MI : Type := MethodName × ByteArray × Nat × Option FieldType × List (Nat × Nat × Nat × Nat)
def mY (M : MI) : MethodName := M.1
def mC (M : MI) : ByteArray := M.2.1
def mN (M : MI) : Nat := M.2.2.1
def mR (M : MI) : Option FieldType := M.2.2.2.1
def mH (M : MI) : List (Nat × Nat × Nat × Nat) := M.2.2.2.2
def wdM (M : MI) : Cond := match mH M with
  | [] => Cond.code (mY M) (mC M) (mN M) (mR M)
  | h :: t => Cond.codeWith (mY M) (mC M) (mN M) (mR M) (h :: t)
def wsM (M : MI) : List Cond := wdM M :: AW
def RM (d mc ms : Nat) : Room := { frames := d, cells := mc, slots := ms, locals := 36 * d }
/-- how a method ended: with what it returned, or with the class that it threw -/
abbrev Oc : Type := Option Value ⊕ String
def PcM (Γ : Gm) (vs : List Value) (σ : AH) : Array Value → State → Prop := fun a U => a = vs.toArray ∧ HP Γ σ U U.heap ∧ KN Γ U ∧ ST Γ U U.heap
def QcM (Γ : Gm) (o : Oc) (σ' : AH) : Array Value → State → Outcome → State → Prop := fun _ st oc t => (∃ v, o = .inl v ∧ oc = .returned v) ∧ HP Γ σ' t t.heap ∧ va_F (ownA Γ) st t
def XcM (Γ : Gm) (o : Oc) (σ' : AH) : String → State → State → Prop := fun E st t => o = .inr E ∧ HP Γ σ' t t.heap ∧ va_F (ownA Γ) st t
theorem PcM.blind (Γ : Gm) (vs : List Value) (σ : AH) : FrameBlind (PcM Γ vs σ) := by
  intro a U g mk h
  exact ⟨h.1, HP.moved (U := U) (U' := U.calling g mk a) (Vm.Alike.refl U.vm) h.2.1, KN.warm (s := U) (U := U.calling g mk a) (State.WarmedH.refl U) h.2.2.1, ST.moved (U := U) (U' := U.calling g mk a) (Vm.Alike.refl U.vm) h.2.2.2⟩
/-- M, called with vs over σ, ends with o and leaves σ' -/
def Runs (Γ : Gm) (d : Nat) (M : MI) (vs : List Value) (σ : AH) (o : Oc) (σ' : AH) : Prop :=
  hc σ ≤ hc σ' ∧ hv σ ≤ hv σ' ∧ vx_Met (gL Γ) (mY M) (wsM M) (RM d (hc σ' - hc σ) (hv σ' - hv σ)) (PcM Γ vs σ) (QcM Γ o σ') (XcM Γ o σ') (hc σ' - hc σ) (hv σ' - hv σ) (ownA Γ)
def RUN (Γ : Gm) (d : Nat) (M : MI) (vs : List Value) (σ : AH) (Q : Oc → AH → Prop) : Prop := WF Γ σ → ∃ o σ', Runs Γ d M vs σ o σ' ∧ WF Γ σ' ∧ Q o σ'
/-! locals as a list: what is known of each -/
def lvp : Nat → List (Option Value) → List (Nat × Value)
  | _, [] => []
  | i, none :: r => lvp (i + 1) r
  | i, some v :: r => (i, v) :: lvp (i + 1) r
theorem lvp_mem : ∀ (L : List (Option Value)) (i : Nat) (q : Nat × Value), q ∈ lvp i L ↔ ∃ k, q.1 = i + k ∧ L[k]? = some (some q.2)
  | [], i, q => by simp [lvp]
  | none :: r, i, q => by
    rw [lvp, lvp_mem r (i + 1) q]
    constructor
    · rintro ⟨k, h1, h2⟩
      exact ⟨k + 1, by omega, h2⟩
    · rintro ⟨k, h1, h2⟩
      cases k with
      | zero => simp at h2
      | succ k => exact ⟨k, by omega, h2⟩
  | some v :: r, i, q => by
    rw [lvp, List.mem_cons, lvp_mem r (i + 1) q]
    constructor
    · rintro (h | ⟨k, h1, h2⟩)
      · subst h
        exact ⟨0, rfl, rfl⟩
      · exact ⟨k + 1, by omega, h2⟩
    · rintro ⟨k, h1, h2⟩
      cases k with
      | zero =>
        simp at h2
        exact Or.inl (Prod.ext h1 h2.symm)
      | succ k => exact Or.inr ⟨k, by omega, h2⟩
def lvh (ls : Array Slot) (nL : Nat) (L : List (Option Value)) : Prop := lv_has ls nL (lvp 0 L)
theorem lvh.at {ls : Array Slot} {nL : Nat} {L : List (Option Value)} (h : lvh ls nL L) {k : Nat} {v : Value} (hk : L[k]? = some (some v)) : ls[k]? = some (.val v) := h.2.2 (k, v) ((lvp_mem L 0 (k, v)).mpr ⟨k, by simp, hk⟩)
theorem lvh.less {ls : Array Slot} {nL : Nat} {L L' : List (Option Value)} (h : lvh ls nL L) (hl : ∀ (k : Nat) (v : Value), L'[k]? = some (some v) → L[k]? = some (some v)) : lvh ls nL L' := by
  refine ⟨h.1, h.2.1, fun q hq => ?_⟩
  obtain ⟨k, h1, h2⟩ := (lvp_mem L' 0 q).mp hq
  have h3 := h.at (hl k q.2 h2)
  rw [show q.1 = k by omega]
  exact h3
def is2 (x : Option Value) : Bool := match x with
  | some v => v.category == 2
  | none => false
/-- storing one slot -/
def st1 : List (Option Value) → Nat → Value → List (Option Value)
  | [], _, _ => []
  | _ :: r, 0, v => some v :: r
  | x :: r, k + 1, v => (if k = 0 ∧ is2 x = true then none else x) :: st1 r k v
/-- storing two -/
def st2 : List (Option Value) → Nat → Value → List (Option Value)
  | [], _, _ => []
  | _ :: r, 0, v => some v :: (match r with | [] => [] | _ :: r' => none :: r')
  | x :: r, k + 1, v => (if k = 0 ∧ is2 x = true then none else x) :: st2 r k v
theorem st1_at : ∀ (L : List (Option Value)) (k : Nat) (v : Value) (j : Nat) (w : Value), (st1 L k v)[j]? = some (some w) → (j = k ∧ w = v) ∨ (j ≠ k ∧ L[j]? = some (some w) ∧ ¬ (j + 1 = k ∧ w.category = 2))
  | [], k, v, j, w, h => by simp [st1] at h
  | x :: r, 0, v, j, w, h => by
    cases j with
    | zero => simp [st1] at h; exact Or.inl ⟨rfl, h.symm⟩
    | succ j => exact Or.inr ⟨by omega, by simpa [st1] using h, by omega⟩
  | x :: r, k + 1, v, j, w, h => by
    cases j with
    | zero =>
      simp only [st1, List.getElem?_cons_zero, Option.some.injEq] at h
      split at h
      · cases h
      · rename_i hn
        subst h
        refine Or.inr ⟨by omega, rfl, fun q => hn ⟨by omega, by simp [is2, q.2]⟩⟩
    | succ j =>
      have h2 : (st1 r k v)[j]? = some (some w) := h
      rcases st1_at r k v j w h2 with ⟨a, b⟩ | ⟨a, b, c⟩
      · exact Or.inl ⟨by omega, b⟩
      · exact Or.inr ⟨by omega, b, fun q => c ⟨by omega, q.2⟩⟩
theorem st2_at : ∀ (L : List (Option Value)) (k : Nat) (v : Value) (j : Nat) (w : Value), (st2 L k v)[j]? = some (some w) → (j = k ∧ w = v) ∨ (j ≠ k ∧ j ≠ k + 1 ∧ L[j]? = some (some w) ∧ ¬ (j + 1 = k ∧ w.category = 2))
  | [], k, v, j, w, h => by simp [st2] at h
  | x :: r, 0, v, j, w, h => by
    cases j with
    | zero => simp [st2] at h; exact Or.inl ⟨rfl, h.symm⟩
    | succ j =>
      cases r with
      | nil => simp [st2] at h
      | cons y r' =>
        cases j with
        | zero => simp [st2] at h
        | succ j => exact Or.inr ⟨by omega, by omega, by simpa [st2] using h, by omega⟩
  | x :: r, k + 1, v, j, w, h => by
    cases j with
    | zero =>
      simp only [st2, List.getElem?_cons_zero, Option.some.injEq] at h
      split at h
      · cases h
      · rename_i hn
        subst h
        refine Or.inr ⟨by omega, by omega, rfl, fun q => hn ⟨by omega, by simp [is2, q.2]⟩⟩
    | succ j =>
      have h2 : (st2 r k v)[j]? = some (some w) := h
      rcases st2_at r k v j w h2 with ⟨a, b⟩ | ⟨a, b, c, d⟩
      · exact Or.inl ⟨by omega, b⟩
      · exact Or.inr ⟨by omega, by omega, c, fun q => d ⟨by omega, q.2⟩⟩
theorem lvh.st1 {ls' : Array Slot} {nL : Nat} {L : List (Option Value)} {k : Nat} {v : Value} (h : lv_has ls' nL ((k, v) :: (lvp 0 L).filter (fun q => !(q.1 == k) && !(q.1 + 1 == k && q.2.category == 2)))) : lvh ls' nL (st1 L k v) := by
  refine ⟨h.1, h.2.1, fun q hq => h.2.2 q ?_⟩
  obtain ⟨j, h1, h2⟩ := (lvp_mem _ 0 q).mp hq
  obtain ⟨q1, q2⟩ := q
  have h1 : q1 = j := by simpa using h1
  subst h1
  rcases st1_at L k v q1 q2 h2 with ⟨a, b⟩ | ⟨a, b, c⟩
  · subst a; subst b
    exact List.mem_cons_self
  · refine List.mem_cons_of_mem _ (List.mem_filter.mpr ⟨(lvp_mem L 0 _).mpr ⟨q1, by simp, b⟩, ?_⟩)
    simp only [Bool.and_eq_true, Bool.not_eq_true', beq_eq_false_iff_ne, Bool.and_eq_false_iff]
    refine ⟨a, ?_⟩
    by_cases hh : q1 + 1 = k
    · exact Or.inr fun q => c ⟨hh, q⟩
    · exact Or.inl hh
theorem lvh.st2 {ls' : Array Slot} {nL : Nat} {L : List (Option Value)} {k : Nat} {v : Value} (h : lv_has ls' nL ((k, v) :: (lvp 0 L).filter (fun q => !(q.1 == k) && (!(q.1 == k + 1) && !(q.1 + 1 == k && q.2.category == 2))))) : lvh ls' nL (st2 L k v) := by
  refine ⟨h.1, h.2.1, fun q hq => h.2.2 q ?_⟩
  obtain ⟨j, h1, h2⟩ := (lvp_mem _ 0 q).mp hq
  obtain ⟨q1, q2⟩ := q
  have h1 : q1 = j := by simpa using h1
  subst h1
  rcases st2_at L k v q1 q2 h2 with ⟨a, b⟩ | ⟨a, a2, b, c⟩
  · subst a; subst b
    exact List.mem_cons_self
  · refine List.mem_cons_of_mem _ (List.mem_filter.mpr ⟨(lvp_mem L 0 _).mpr ⟨q1, by simp, b⟩, ?_⟩)
    simp only [Bool.and_eq_true, Bool.not_eq_true', beq_eq_false_iff_ne, Bool.and_eq_false_iff]
    refine ⟨a, a2, ?_⟩
    by_cases hh : q1 + 1 = k
    · exact Or.inr fun q => c ⟨hh, q⟩
    · exact Or.inl hh
/-- what holds all along a walk of M's body -/
def CX (Γ : Gm) (M : MI) (p : Program) (s : State) (m : MethodId) (args : Array Value) (meth : Method) (c : Code) : Prop :=
  p.tables.exec = Jvm.exec ∧ c.code = mC M ∧ c.maxLocals = mN M ∧ s.vm.findClass (mY M).cls = some m.cls ∧ meth.locks = false ∧ meth.sig.returnType = mR M ∧ c.exceptionTable.toList = tableOf (mH M) ∧ meth.name = (mY M).name ∧ (∀ w ∈ AW, w.before args s = true) ∧ KN Γ s ∧ ST Γ s s.heap
def Ev (Γ : Gm) (M : MI) (d pc : Nat) (L : List (Option Value)) (st : List Value) (σ : AH) (o : Oc) (σ' : AH) : Prop :=
  hc σ ≤ hc σ' ∧ hv σ ≤ hv σ' ∧ ∀ (p : Program) (e : Env) (s : State) (m : MethodId) (args : Array Value) (below : List Frame) (meth : Method) (c : Code) (H : Heap) (locs : List Loc) (ls : Array Slot) (k0 n0 : Nat),
    CX Γ M p s m args meth c → va_S (ownA Γ) s.heap H locs → HP Γ σ s H → lvh ls (mN M) L → k0 ≤ hc σ → n0 ≤ hv σ →
    W p (gL Γ) e (RM d (hc σ' - k0) (hv σ' - n0)) s m args below meth c H locs (hc σ - k0) (hv σ - n0) (vx_MQ below (QcM Γ o σ') (XcM Γ o σ') args s (hc σ' - k0) (hv σ' - n0) (ownA Γ)) (F0 m pc ls st)
/-- from pc with locals L, stack st, heap σ, M's body comes to an end of which Q holds -/
def EV (Γ : Gm) (M : MI) (d pc : Nat) (L : List (Option Value)) (st : List Value) (σ : AH) (Q : Oc → AH → Prop) : Prop := WF Γ σ → ∃ o σ', Ev Γ M d pc L st σ o σ' ∧ WF Γ σ' ∧ Q o σ'
theorem EV.less {Γ : Gm} {M : MI} {d pc : Nat} {L L' : List (Option Value)} {st : List Value} {σ : AH} {Q : Oc → AH → Prop} (k : EV Γ M d pc L' st σ Q) (hl : ∀ (k : Nat) (v : Value), L'[k]? = some (some v) → L[k]? = some (some v)) : EV Γ M d pc L st σ Q := by
  intro hw
  obtain ⟨o, σ', ⟨h1, h2, h⟩, q⟩ := k hw
  exact ⟨o, σ', ⟨h1, h2, fun p e s m args below meth c H locs ls k0 n0 C S P l a b => h p e s m args below meth c H locs ls k0 n0 C S P (l.less hl) a b⟩, q⟩
theorem EV.post {Γ : Gm} {M : MI} {d pc : Nat} {L : List (Option Value)} {st : List Value} {σ : AH} {Q Q' : Oc → AH → Prop} (k : EV Γ M d pc L st σ Q') (h : ∀ o σ', Q' o σ' → Q o σ') : EV Γ M d pc L st σ Q := by
  intro hw
  obtain ⟨o, σ', e, w, q⟩ := k hw
  exact ⟨o, σ', e, w, h _ _ q⟩
theorem EV.wf {Γ : Gm} {M : MI} {d pc : Nat} {L : List (Option Value)} {st : List Value} {σ : AH} {Q : Oc → AH → Prop} (k : WF Γ σ → EV Γ M d pc L st σ Q) : EV Γ M d pc L st σ Q := fun hw => k hw hw
theorem RUN.post {Γ : Gm} {d : Nat} {M : MI} {vs : List Value} {σ : AH} {Q Q' : Oc → AH → Prop} (k : RUN Γ d M vs σ Q') (h : ∀ o σ', WF Γ σ' → Q' o σ' → Q o σ') : RUN Γ d M vs σ Q := by
  intro hw
  obtain ⟨o, σ', e, w, q⟩ := k hw
  exact ⟨o, σ', e, w, h _ _ w q⟩
theorem RUN.wf {Γ : Gm} {d : Nat} {M : MI} {vs : List Value} {σ : AH} {Q : Oc → AH → Prop} (k : WF Γ σ → RUN Γ d M vs σ Q) : RUN Γ d M vs σ Q := fun hw => k hw hw
/-- a step that only the frame sees -/
theorem EV.pure {Γ : Gm} {M : MI} {d pc pc' : Nat} {L L' : List (Option Value)} {st st' : List Value} {σ : AH} {Q : Oc → AH → Prop}
    (f : ∀ (p : Program) (e : Env) (R : Room) (s : State) (m : MethodId) (args : Array Value) (below : List Frame) (meth : Method) (c : Code) (H : Heap) (locs : List Loc) (cells slots : Nat) (Z : State → Prop) (ls : Array Slot),
      CX Γ M p s m args meth c → lvh ls (mN M) L → (∀ ls', lvh ls' (mN M) L' → W p (gL Γ) e R s m args below meth c H locs cells slots Z (F0 m pc' ls' st')) → W p (gL Γ) e R s m args below meth c H locs cells slots Z (F0 m pc ls st))
    (k : EV Γ M d pc' L' st' σ Q) : EV Γ M d pc L st σ Q := by
  intro hw
  obtain ⟨o, σ', ⟨h1, h2, h⟩, q⟩ := k hw
  exact ⟨o, σ', ⟨h1, h2, fun p e s m args below meth c H locs ls k0 n0 C S P l a b => f p e _ s m args below meth c H locs _ _ _ ls C l (fun ls' l' => h p e s m args below meth c H locs ls' k0 n0 C S P l' a b)⟩, q⟩
/-- the same, the locals staying -/
theorem EV.pure0 {Γ : Gm} {M : MI} {d pc pc' : Nat} {L : List (Option Value)} {st st' : List Value} {σ : AH} {Q : Oc → AH → Prop}
    (f : ∀ (p : Program) (e : Env) (R : Room) (s : State) (m : MethodId) (args : Array Value) (below : List Frame) (meth : Method) (c : Code) (H : Heap) (locs : List Loc) (cells slots : Nat) (Z : State → Prop) (ls : Array Slot),
      CX Γ M p s m args meth c → lvh ls (mN M) L → W p (gL Γ) e R s m args below meth c H locs cells slots Z (F0 m pc' ls st') → W p (gL Γ) e R s m args below meth c H locs cells slots Z (F0 m pc ls st))
    (k : EV Γ M d pc' L st' σ Q) : EV Γ M d pc L st σ Q :=
  EV.pure (fun p e R s m args below meth c H locs cells slots Z ls C l w => f p e R s m args below meth c H locs cells slots Z ls C l (w ls l)) k
