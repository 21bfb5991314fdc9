/-! CALLS. -/
theorem tab_keeps {M : MI} {s : State} {args : Array Value} (hts : ∀ w ∈ AW, w.before args s = true) (hc : wdM M ∈ AW) : ∀ w ∈ wsM M, ∀ (a' : Array Value) (U : State), s.WarmedH U.vm → w.before a' U = true := by
  intro w hw a' U hW
  have h1 : w ∈ AW := by
    rcases List.mem_cons.mp hw with h | h
    · rw [h]; exact hc
    · exact h
  exact word_at hW (good_of_word (List.mem_filter.mp h1).2) (hts w h1)
/-- entry idx of own's pool: a method of n parameters -/
def LK (own : String) (idx : Nat) (M : MI) (n : Nat) : Prop := Cond.methodLink own idx (mY M) ∈ AW ∧ wdM M ∈ AW ∧ Cond.initialized (mY M).cls ∈ AW ∧ ((mY M).cls ≠ "java/lang/invoke/MethodHandle" ∧ (mY M).cls ≠ "java/lang/invoke/VarHandle") ∧ (parseMethodDescriptor (mY M).desc).map (fun d => d.parameters.length) = some n ∧ mN M ≤ 16
/-- .. static -/
def LKS (own : String) (idx : Nat) (M : MI) (n : Nat) : Prop := LK own idx M n ∧ Cond.static (mY M) ∈ AW
/-- .. of objects of class ci -/
def LKV (own : String) (idx : Nat) (M : MI) (n ci : Nat) : Prop := LK own idx M n ∧ Cond.instanceMethod (mY M) ∈ AW ∧ ∃ C T N ty, CLS ci C T N ty ∧ Cond.selects C (mY M) (mY M) ∈ AW
/-- .. a constructor -/
def LKI (own : String) (idx : Nat) (M : MI) (n : Nat) : Prop := LK own idx M n ∧ Cond.instanceMethod (mY M) ∈ AW ∧ (mY M).name = "<init>"
/-- .. a nest mate's private constructor -/
def LKN (own : String) (idx : Nat) (M : MI) (n : Nat) : Prop := (∃ host, Cond.methodLinkNest own idx (mY M) host ∈ lw_tbl) ∧ wdM M ∈ AW ∧ Cond.initialized (mY M).cls ∈ AW ∧ ((mY M).cls ≠ "java/lang/invoke/MethodHandle" ∧ (mY M).cls ≠ "java/lang/invoke/VarHandle") ∧ (parseMethodDescriptor (mY M).desc).map (fun d => d.parameters.length) = some n ∧ mN M ≤ 16 ∧ Cond.instanceMethod (mY M) ∈ AW ∧ (mY M).name = "<init>"
/-- a callee that cannot throw -/
theorem met_of {l : Launch} {y : MethodName} {ws : List Cond} {rm : Room} {Pc : Array Value → State → Prop} {Qc : Array Value → State → Outcome → State → Prop} {XC : String → State → State → Prop} {mc ms : Nat} {free : Addr → Prop} (h : vx_Met l y ws rm Pc Qc XC mc ms free) (hx : ∀ E st t, ¬ XC E st t) : Met l y ws rm Pc Qc mc ms free := by
  intro p e ha hc1 hc2 s m args below hf hap hP hK
  obtain ⟨n, o, h1, h2, h3, h4⟩ := h p e ha hc1 hc2 s m args below hf hap hP hK
  refine ⟨n, o, h1, h2, h3, ?_⟩
  rcases h4 with h4 | ⟨q, -, E, ce, L, h5, -⟩
  · exact h4
  · exact (hx _ _ _ h5).elim
theorem Runs.met {Γ : Gm} {d : Nat} {M : MI} {vs : List Value} {σ σ' : AH} {v : Option Value} (h : Runs Γ d M vs σ (.inl v) σ') : Met (gL Γ) (mY M) (wsM M) (RM d (hc σ' - hc σ) (hv σ' - hv σ)) (PcM Γ vs σ) (QcM Γ (.inl v) σ') (hc σ' - hc σ) (hv σ' - hv σ) (ownA Γ) :=
  met_of h.2.2 (fun E st t q => by cases q.1)
theorem PcM.holds {Γ : Gm} {vs : List Value} {σ : AH} {s U : State} {H : Heap} {locs : List Loc} (hK : KN Γ s) (hST : ST Γ s s.heap) (S : va_S (ownA Γ) s.heap H locs) (P : HP Γ σ s H) (hU : U.heap = H) (hW : s.WarmedH U.vm) : PcM Γ vs σ vs.toArray U := by
  refine ⟨rfl, ?_, hK.warm hW, ?_⟩
  · rw [hU]; exact P.moved hW.alike
  · rw [hU]; exact (hST.kept S.2.1).moved hW.alike
section CALLR
variable {Γ : Gm} {M : MI} {d pc : Nat} {L : List (Option Value)} {st st0 : List Value} {σ : AH} {Q : Oc → AH → Prop}
/-- behind a call that returns -/
theorem EV.behind {M2 : MI} {d2 pc' : Nat} {vs : List Value} {v : Option Value} {σ1 : AH} (hp : pc + 3 = pc') (hr : Runs Γ d2 M2 vs σ (.inl v) σ1) (hw1 : WF Γ σ1)
    (hrun : ∀ (p : Program) (e : Env) (R : Room) (s : State) (m : MethodId) (args : Array Value) (below : List Frame) (meth : Method) (c : Code) (H : Heap) (locs : List Loc) (cells slots : Nat) (ls : Array Slot), CX Γ M p s m args meth c → va_S (ownA Γ) s.heap H locs → HP Γ σ s H → ls.size = mN M → R.frames = d → R.locals = 36 * d → cells + (hc σ1 - hc σ) ≤ R.cells ∧ slots + (hv σ1 - hv σ) ≤ R.slots →
      ∃ a, va_Run p (gL Γ) e R s m args below meth c H locs cells slots (hc σ1 - hc σ) (hv σ1 - hv σ) (F0 m pc ls st0) st (QcM Γ (.inl v) σ1 a) (ownA Γ))
    (k : EV Γ M d pc' L (v.toList ++ st) σ1 Q) : EV Γ M d pc L st0 σ Q := by
  subst hp
  intro hw
  obtain ⟨o, σ', ⟨h1, h2, h⟩, q⟩ := k hw1
  have g1 := hr.1
  have g2 := hr.2.1
  refine ⟨o, σ', ⟨Nat.le_trans g1 h1, Nat.le_trans g2 h2, fun p e s m args below meth c H locs ls k0 n0 C S P l a b => ?_⟩, q⟩
  obtain ⟨a9, run⟩ := hrun p e (RM d (hc σ' - k0) (hv σ' - n0)) s m args below meth c H locs (hc σ - k0) (hv σ - n0) ls C S P l.1 rfl rfl ⟨by show _ ≤ hc σ' - k0; omega, by show _ ≤ hv σ' - n0; omega⟩
  intro T hT X
  obtain ⟨v', st₀, t, T', L9, e0, X', hL, e1, e2, ⟨⟨v9, q1, q2⟩, hP1, hF⟩, go⟩ := run T hT X
  cases q1
  cases q2
  obtain ⟨-, -, k3⟩ := vx_keep e0 e1 S (fun _ _ z => z) (fun _ z => z) hL hF
  have P1 : HP Γ σ1 s T'.heap := by
    rw [e1]
    refine hP1.moved (Vm.Alike.symm ?_)
    rw [← e2]
    exact X'.warmed.alike
  have e3 : hc σ - k0 + (hc σ1 - hc σ) = hc σ1 - k0 := by omega
  have e4 : hv σ - n0 + (hv σ1 - hv σ) = hv σ1 - n0 := by omega
  rw [e3, e4] at X'
  obtain ⟨t2, a1, b1⟩ := h p e s m args below meth c T'.heap (locs ++ L9) ls k0 n0 C k3 P1 l (by omega) (by omega) T' rfl X'
  exact ⟨t2, go t2 a1, b1⟩
theorem EV.callS {M2 : MI} {d2 pc' idx n : Nat} {vs : List Value} {v : Option Value} {σ1 : AH} (hp : pc + 3 = pc') (hl : LKS (mY M).cls idx M2 n) (hH : mH M2 = []) (hn : vs.length = n) (hst : st0 = vs.reverse ++ st) (hcat : (st.map fun v => v.category).sum ≤ 8) (hd : decode (mC M) pc = .ok (.invokestatic idx, 3)) (hdd : d2 < d)
    (hr : Runs Γ d2 M2 vs σ (.inl v) σ1) (hw1 : WF Γ σ1) (k : EV Γ M d pc' L (v.toList ++ st) σ1 Q) : EV Γ M d pc L st0 σ Q := by
  obtain ⟨⟨l1, l2, l3, l4, l5, l6⟩, l7⟩ := hl
  refine EV.behind hp hr hw1 (fun p e R s m args below meth c H locs cells slots ls C S P hls hRf hRl hf => ⟨vs.toArray, ?_⟩) k
  obtain ⟨hx, hb, hml, hown, -, -, -, -, hts, hK, hST⟩ := C
  have hcode : Cond.code (mY M2) (mC M2) (mN M2) (mR M2) = wdM M2 := by unfold wdM; rw [hH]
  refine va_runS (bytes := mC M2) (maxL := mN M2) (ret := mR M2) (As := vs) (rest := st) (n := n) ⟨hx, hb, hml, hown, hts⟩ hr.met ⟨⟨rfl, rfl, ?_, ?_, tab_keeps hts l2, ?_, ?_, hts _ l3, l4, fun sig h => ?_, hts _ l1⟩, hts _ l7⟩ ⟨PcM.blind _ _ _, fun U hU hW => PcM.holds hK hST S P hU hW⟩ rfl hn hls hst ?_ hd hf
  · show d2 + 1 ≤ R.frames
    omega
  · show 8 + (mN M2 + 11) + 36 * d2 ≤ R.locals
    omega
  · rw [hcode]; exact List.mem_cons_self
  · rw [hcode]; exact hts _ l2
  · rw [h] at l5
    exact (Option.some.inj l5).symm
  · show 2 * 0 + _ ≤ 8
    omega
theorem my_recv {ci : Nat} {C : String} {T : u_T} {N : Nat} {ty : Nat → FieldType} (hC : CLS ci C T N ty) {s : State} {H : Heap} {b n : Nat} (hK : KN Γ s) (P : HP Γ σ s H) (hb : hs σ b = some (ci, n)) : ∃ cellB : Cell, H[b]? = some cellB ∧ cellB.vm.isStatics = false ∧ s.vm.findClass C = some cellB.cls := by
  obtain ⟨c1, c2, c3, c4, c5, c6, -⟩ := hC
  obtain ⟨-, cell, q1, q2, q3, -⟩ := (P.1 _ _ _ hb).obj c6
  exact ⟨cell, q1, by rw [q3]; rfl, by rw [q2]; exact (hK.1.1 ci _ c1).2.1⟩
theorem EV.callV {M2 : MI} {d2 pc' idx n ci nb b : Nat} {vs : List Value} {v : Option Value} {σ1 : AH} (hp : pc + 3 = pc') (hl : LKV (mY M).cls idx M2 n ci) (hH : mH M2 = []) (hn : vs.length = n) (hst : st0 = vs.reverse ++ .ref b :: st) (hcat : (st.map fun v => v.category).sum ≤ 8) (hd : decode (mC M) pc = .ok (.invokevirtual idx, 3)) (hdd : d2 < d) (hb9 : hs σ b = some (ci, nb))
    (hr : Runs Γ d2 M2 (.ref b :: vs) σ (.inl v) σ1) (hw1 : WF Γ σ1) (k : EV Γ M d pc' L (v.toList ++ st) σ1 Q) : EV Γ M d pc L st0 σ Q := by
  obtain ⟨⟨l1, l2, l3, l4, l5, l6⟩, l7, C9, T9, N9, ty9, hC9, l8⟩ := hl
  refine EV.behind hp hr hw1 (fun p e R s m args below meth c H locs cells slots ls C S P hls hRf hRl hf => ⟨(Value.ref b :: vs).toArray, ?_⟩) k
  obtain ⟨hx, hb, hml, hown, -, -, -, -, hts, hK, hST⟩ := C
  have hcode : Cond.code (mY M2) (mC M2) (mN M2) (mR M2) = wdM M2 := by unfold wdM; rw [hH]
  refine va_runV (C := C9) (b := b) (bytes := mC M2) (maxL := mN M2) (ret := mR M2) (As := vs) (rest := st) (n := n) ⟨hx, hb, hml, hown, hts⟩ hr.met ⟨⟨rfl, rfl, ?_, ?_, tab_keeps hts l2, ?_, ?_, hts _ l3, l4, fun sig h => ?_, hts _ l1⟩, hts _ l7, hts _ l8⟩ ⟨PcM.blind _ _ _, my_recv hC9 hK P hb9, fun U hU hW => PcM.holds hK hST S P hU hW⟩ rfl hn hls hst ?_ hd hf
  · show d2 + 1 ≤ R.frames
    omega
  · show 8 + (mN M2 + 11) + 36 * d2 ≤ R.locals
    omega
  · rw [hcode]; exact List.mem_cons_self
  · rw [hcode]; exact hts _ l2
  · rw [h] at l5
    exact (Option.some.inj l5).symm
  · show 2 * 0 + _ ≤ 8
    omega
theorem EV.callI {M2 : MI} {d2 pc' idx n b : Nat} {vs : List Value} {σ1 : AH} (hp : pc + 3 = pc') (hl : LKI (mY M).cls idx M2 n) (hH : mH M2 = []) (hR : mR M2 = none) (hn : vs.length = n) (hst : st0 = vs.reverse ++ .ref b :: st) (hcat : (st.map fun v => v.category).sum ≤ 8) (hd : decode (mC M) pc = .ok (.invokespecial idx, 3)) (hdd : d2 < d)
    (hr : Runs Γ d2 M2 (.ref b :: vs) σ (.inl none) σ1) (hw1 : WF Γ σ1) (k : EV Γ M d pc' L st σ1 Q) : EV Γ M d pc L st0 σ Q := by
  obtain ⟨⟨l1, l2, l3, l4, l5, l6⟩, l7, l8⟩ := hl
  refine EV.behind hp hr hw1 (fun p e R s m args below meth c H locs cells slots ls C S P hls hRf hRl hf => ⟨(Value.ref b :: vs).toArray, ?_⟩) k
  obtain ⟨hx, hb, hml, hown, -, -, -, -, hts, hK, hST⟩ := C
  have hcode : Cond.code (mY M2) (mC M2) (mN M2) none = wdM M2 := by unfold wdM; rw [hH, hR]
  refine va_runI (b := b) (bytes := mC M2) (maxL := mN M2) (As := vs) (rest := st) (n := n) ⟨hx, hb, hml, hown, hts⟩ hr.met ⟨⟨rfl, rfl, ?_, ?_, tab_keeps hts l2, ?_, ?_, hts _ l3, l4, fun sig h => ?_, hts _ l1⟩, l8, hts _ l7⟩ ⟨PcM.blind _ _ _, fun U hU hW => PcM.holds hK hST S P hU hW⟩ rfl hn hls hst ?_ hd hf
  · show d2 + 1 ≤ R.frames
    omega
  · show 8 + (mN M2 + 11) + 36 * d2 ≤ R.locals
    omega
  · rw [hcode]; exact List.mem_cons_self
  · rw [hcode]; exact hts _ l2
  · rw [h] at l5
    exact (Option.some.inj l5).symm
  · show 2 * 0 + _ ≤ 8
    omega
theorem EV.callIN {M2 : MI} {d2 pc' idx n b : Nat} {vs : List Value} {σ1 : AH} (hp : pc + 3 = pc') (hl : LKN (mY M).cls idx M2 n) (hH : mH M2 = []) (hR : mR M2 = none) (hn : vs.length = n) (hst : st0 = vs.reverse ++ .ref b :: st) (hcat : (st.map fun v => v.category).sum ≤ 8) (hd : decode (mC M) pc = .ok (.invokespecial idx, 3)) (hdd : d2 < d)
    (hr : Runs Γ d2 M2 (.ref b :: vs) σ (.inl none) σ1) (hw1 : WF Γ σ1) (k : EV Γ M d pc' L st σ1 Q) : EV Γ M d pc L st0 σ Q := by
  obtain ⟨⟨host, l1⟩, l2, l3, l4, l5, l6, l7, l8⟩ := hl
  refine EV.behind hp hr hw1 (fun p e R s m args below meth c H locs cells slots ls C S P hls hRf hRl hf => ⟨(Value.ref b :: vs).toArray, ?_⟩) k
  obtain ⟨hx, hb, hml, hown, -, -, -, -, hts, hK, hST⟩ := C
  have hcode : Cond.code (mY M2) (mC M2) (mN M2) none = wdM M2 := by unfold wdM; rw [hH, hR]
  refine va_runIN (host := host) (b := b) (bytes := mC M2) (maxL := mN M2) (As := vs) (rest := st) (n := n) ⟨hx, hb, hml, hown, hts⟩ hr.met ⟨⟨⟨rfl, rfl, ?_, ?_, tab_keeps hts l2, ?_⟩, ?_, hts _ l3, l4, fun sig h => ?_, va_Nw.use rfl (hK.2.1 _ l1 rfl)⟩, l8, hts _ l7⟩ ⟨PcM.blind _ _ _, fun U hU hW => PcM.holds hK hST S P hU hW⟩ rfl hn hls hst ?_ hd hf
  · show d2 + 1 ≤ R.frames
    omega
  · show 8 + (mN M2 + 11) + 36 * d2 ≤ R.locals
    omega
  · rw [hcode]; exact List.mem_cons_self
  · rw [hcode]; exact hts _ l2
  · rw [h] at l5
    exact (Option.some.inj l5).symm
  · show 2 * 0 + _ ≤ 8
    omega
/-- a static method with handlers of its own -/
theorem EV.callSW {M2 : MI} {d2 pc' idx n : Nat} {vs : List Value} {v : Option Value} {σ1 : AH} {x : Nat × Nat × Nat × Nat} {r : List (Nat × Nat × Nat × Nat)} (hp : pc + 3 = pc') (hl : LKS (mY M).cls idx M2 n) (hH : mH M2 = x :: r) (hn : vs.length = n) (hst : st0 = vs.reverse ++ st) (hcat : (st.map fun v => v.category).sum ≤ 8) (hd : decode (mC M) pc = .ok (.invokestatic idx, 3)) (hdd : d2 < d)
    (hr : Runs Γ d2 M2 vs σ (.inl v) σ1) (hw1 : WF Γ σ1) (k : EV Γ M d pc' L (v.toList ++ st) σ1 Q) : EV Γ M d pc L st0 σ Q := by
  obtain ⟨⟨l1, l2, l3, l4, l5, l6⟩, l7⟩ := hl
  refine EV.behind hp hr hw1 (fun p e R s m args below meth c H locs cells slots ls C S P hls hRf hRl hf => ⟨vs.toArray, ?_⟩) k
  obtain ⟨hx, hb, hml, hown, -, -, -, -, hts, hK, hST⟩ := C
  have hcode : Cond.codeWith (mY M2) (mC M2) (mN M2) (mR M2) (mH M2) = wdM M2 := by unfold wdM; rw [hH]
  refine vx_runSW (bytes := mC M2) (maxL := mN M2) (ret := mR M2) (hh := mH M2) (As := vs) (rest := st) (n := n) ⟨hx, hb, hml, hown, hts⟩ hr.met ⟨⟨rfl, rfl, ?_, ?_, tab_keeps hts l2, ?_⟩, ?_, hts _ l3, l4, fun sig h => ?_, hts _ l1, hts _ l7⟩ ⟨PcM.blind _ _ _, fun U hU hW => PcM.holds hK hST S P hU hW⟩ rfl hn hls hst ?_ hd hf
  · show d2 + 1 ≤ R.frames
    omega
  · show 8 + (mN M2 + 11) + 36 * d2 ≤ R.locals
    omega
  · rw [hcode]; exact List.mem_cons_self
  · rw [hcode]; exact hts _ l2
  · rw [h] at l5
    exact (Option.some.inj l5).symm
  · show 2 * 0 + _ ≤ 8
    omega
/-- behind a call that throws -/
theorem EV.thrown {M2 : MI} {d2 : Nat} {vs : List Value} {E : String} {σ1 : AH} {o : Oc} (hr : Runs Γ d2 M2 vs σ (.inr E) σ1) (hw1 : WF Γ σ1)
    (hrun : ∀ (p : Program) (e : Env) (R : Room) (s : State) (m : MethodId) (args : Array Value) (below : List Frame) (meth : Method) (c : Code) (H : Heap) (locs : List Loc) (cells slots : Nat) (ls : Array Slot), CX Γ M p s m args meth c → va_S (ownA Γ) s.heap H locs → HP Γ σ s H → ls.size = mN M → R.frames = d → R.locals = 36 * d → cells + (hc σ1 - hc σ) ≤ R.cells ∧ slots + (hv σ1 - hv σ) ≤ R.slots →
      ∃ a, vx_Run p (gL Γ) e R s m args below meth c H locs cells slots (hc σ1 - hc σ) (hv σ1 - hv σ) (F0 m pc ls st0) st (QcM Γ (.inr E) σ1 a) (XcM Γ (.inr E) σ1) (ownA Γ))
    (hx : ∀ (p : Program) (e : Env) (R : Room) (s : State) (m : MethodId) (args : Array Value) (below : List Frame) (meth : Method) (c : Code) (H : Heap) (locs : List Loc) (cells slots : Nat) (ls : Array Slot) (q : Addr) (ce : Cell), CX Γ M p s m args meth c → va_S (ownA Γ) s.heap H locs → HP Γ σ1 s H → lvh ls (mN M) L → H[q]? = some ce → ce.vm = .none → s.vm.findClass E = some ce.cls →
      vx_W p (gL Γ) e R s m args below meth c H locs cells slots (vx_MQ below (QcM Γ o σ1) (XcM Γ o σ1) args s cells slots (ownA Γ)) (F0 m pc ls st) q)
    (hq : Q o σ1) : EV Γ M d pc L st0 σ Q := by
  intro hw
  have g1 := hr.1
  have g2 := hr.2.1
  refine ⟨o, σ1, ⟨g1, g2, fun p e s m args below meth c H locs ls k0 n0 C S P l a b => ?_⟩, hw1, hq⟩
  obtain ⟨a9, run⟩ := hrun p e (RM d (hc σ1 - k0) (hv σ1 - n0)) s m args below meth c H locs (hc σ - k0) (hv σ - n0) ls C S P l.1 rfl rfl ⟨by show _ ≤ hc σ1 - k0; omega, by show _ ≤ hv σ1 - n0; omega⟩
  intro T hT X
  rcases run T hT X with ⟨v', st₀, t, T', L9, e0, X', hL, e1, e2, ⟨⟨v9, q1, q2⟩, -⟩, -⟩ | ⟨q9, st₀, t, T', L9, E9, ce, e0, X', hL, e1, e2, ⟨q1, hP1, hF⟩, hce, hcv, hcl, go⟩
  · cases q1
  · cases q1
    obtain ⟨-, -, k3⟩ := vx_keep e0 e1 S (fun _ _ z => z) (fun _ z => z) hL hF
    have P1 : HP Γ σ1 s T'.heap := by
      rw [e1]
      refine hP1.moved (Vm.Alike.symm ?_)
      rw [← e2]
      exact X'.warmed.alike
    have e3 : hc σ - k0 + (hc σ1 - hc σ) = hc σ1 - k0 := by omega
    have e4 : hv σ - n0 + (hv σ1 - hv σ) = hv σ1 - n0 := by omega
    rw [e3, e4] at X'
    obtain ⟨t2, a1, b1⟩ := hx p e _ s m args below meth c T'.heap (locs ++ L9) (hc σ1 - k0) (hv σ1 - n0) ls q9 ce C k3 P1 l (by rw [e1]; exact hce) hcv hcl T' rfl X'
    exact ⟨t2, go.trans a1, b1⟩
/-- a virtual call that throws, from a method without handlers -/
theorem EV.callVX {M2 : MI} {d2 idx n ci nb b : Nat} {vs : List Value} {E : String} {σ1 : AH} (hM : mH M = []) (hl : LKV (mY M).cls idx M2 n ci) (hH : mH M2 = []) (hn : vs.length = n) (hst : st0 = vs.reverse ++ .ref b :: st) (hcat : (st.map fun v => v.category).sum ≤ 8) (hd : decode (mC M) pc = .ok (.invokevirtual idx, 3)) (hdd : d2 < d) (hb9 : hs σ b = some (ci, nb))
    (hr : Runs Γ d2 M2 (.ref b :: vs) σ (.inr E) σ1) (hw1 : WF Γ σ1) (hq : Q (.inr E) σ1) : EV Γ M d pc L st0 σ Q := by
  obtain ⟨⟨l1, l2, l3, l4, l5, l6⟩, l7, C9, T9, N9, ty9, hC9, l8⟩ := hl
  refine EV.thrown (L := L) (st := st) (o := .inr E) hr hw1 (fun p e R s m args below meth c H locs cells slots ls C S P hls hRf hRl hf => ⟨(Value.ref b :: vs).toArray, ?_⟩) (fun p e R s m args below meth c H locs cells slots ls q ce C S P l h1 h2 h3 => ?_) hq
  · obtain ⟨hx, hb, hml, hown, -, -, -, -, hts, hK, hST⟩ := C
    have hcode : Cond.code (mY M2) (mC M2) (mN M2) (mR M2) = wdM M2 := by unfold wdM; rw [hH]
    refine vx_runV (C := C9) (b := b) (bytes := mC M2) (maxL := mN M2) (ret := mR M2) (As := vs) (rest := st) (n := n) ⟨hx, hb, hml, hown, hts⟩ hr.2.2 ⟨⟨rfl, rfl, ?_, ?_, tab_keeps hts l2, ?_, ?_, hts _ l3, l4, fun sig h => ?_, hts _ l1⟩, hts _ l7, hts _ l8⟩ ⟨PcM.blind _ _ _, my_recv hC9 hK P hb9, fun U hU hW => PcM.holds hK hST S P hU hW⟩ rfl hn hls hst ?_ hd hf
    · show d2 + 1 ≤ R.frames
      omega
    · show 8 + (mN M2 + 11) + 36 * d2 ≤ R.locals
      omega
    · rw [hcode]; exact List.mem_cons_self
    · rw [hcode]; exact hts _ l2
    · rw [h] at l5
      exact (Option.some.inj l5).symm
    · show 2 * 0 + _ ≤ 8
      omega
  · refine vx_out (E := E) (fun x hx9 => ?_) C.2.2.2.2.1 h1 h2 h3 (fun t ht hvm => ⟨rfl, by rw [ht]; exact P.moved hvm, S.F ht⟩) S.2.2 (Nat.le_refl _) (Nat.le_refl _)
    rw [C.2.2.2.2.2.2.1, hM] at hx9
    exact absurd hx9 List.not_mem_nil
end CALLR
