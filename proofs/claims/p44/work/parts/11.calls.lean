/-! THROWS, RETURNS, CALLS. The law my_throw0 is vx_throw0 with the heap's size told exactly (its proof turned). -/
section THROWR
variable {p : Program} {l : Launch} {e : Env} {R : Room} {s : State} {m : MethodId} {args : Array Value} {below : List Frame} {meth : Method} {c : Code} {H : Heap} {locs : List Loc} {cells slots : Nat} {Q : State → Prop}
variable {mc ms : Nat} {free : Addr → Prop} {A0 A1 : Nat → Prop} {H0 : Heap} {a : Array Value} {ls : Array Slot} {st0 rest : List Value}
variable {Qc : Array Value → State → Outcome → State → Prop} {XC : String → State → State → Prop}
theorem my_throw0 {cc : ByteArray} {pc : Nat} (hexec : p.tables.exec = Jvm.exec) (hb : c.code = cc) (hl : l.stackTraces = false) {own cls : String} {names : List String} {ik ic mc ms : Nat} {A : Nat → Prop}
    (hown : s.vm.findClass own = some m.cls) (hcls : Bundle.fit cls = true) (hnames : ∀ n ∈ names, Bundle.fit n = true)
    (hk : (Cond.classLink own ik cls).before args s = true) (hini : (Cond.initialized cls).before args s = true) (hat : ∀ w ∈ vx_at0 own ic cls names, w.before args s = true)
    (hgood : ∀ w ∈ Cond.classLink own ik cls :: Cond.initialized cls :: vx_at0 own ic cls names, vx_ot w = true)
    (hU : vx_Zq Bundle.tN "UNASSIGNED_STACK" Bundle.steD A s s.heap) (hN : vx_Zq Bundle.tN "SUPPRESSED_SENTINEL" Bundle.listD A s s.heap) (hS : va_S A s.heap H locs) (hsize : ls.size = c.maxLocals)
    (d0 : decode cc pc = .ok (.new ik, 3)) (d3 : decode cc (pc + 3) = .ok (.dup, 1)) (d4 : decode cc (pc + 4) = .ok (.invokespecial ic, 3)) (d7 : decode cc (pc + 7) = .ok (.athrow, 1))
    (hout : ∀ x ∈ c.exceptionTable.toList, covers x (pc + 7) = false)
    (hRframes : names.length + 3 < R.frames) (hRlocals : (rest.map fun v => v.category).sum + (13 * (names.length + 1) + 42) ≤ R.locals) (hRcells : cells + 1 ≤ R.cells) (hRslots : slots + 6 ≤ R.slots) (hlocks : meth.locks = false)
    (hx : ∀ t : State, s.vm.Alike t.vm → t.heap.size = H.size + 1 → (∀ q : Nat, q < H.size → t.heap[q]? = H[q]?) → XC cls s t)
    (hf : ∀ z ∈ locs, free z.base) (hc : cells + 1 ≤ mc) (hs : slots + 6 ≤ ms) :
    W p l e R s m args below meth c H locs cells slots (vx_MQ below Qc XC args s mc ms free) (F0 m pc ls rest) := by
  intro T hT X
  have htr : e.platform.stackTraces = false := (show e.platform.stackTraces = l.stackTraces by rw [X.admits.platform]).trans hl
  have Y := vx_rebase X (R' := { frames := R.frames, locals := R.locals, cells := 1, slots := 6 }) (Nat.le_refl _) (Nat.le_refl _) hRcells hRslots
  obtain ⟨s', hA⟩ : ∃ z, z = (T.setVm s.vm).setFrames (.invoking m args :: below) := ⟨_, rfl⟩
  rw [← hA] at Y
  have hvm : s'.vm = s.vm := by rw [hA]; rfl
  have hhp : s'.heap = H := by rw [hA]; exact hT
  have hW0 : s.WarmedH s'.vm := by rw [hvm]; exact State.WarmedH.refl s
  have hat' : ∀ w ∈ vx_at0 own ic cls names, w.before args s' = true := fun w hw => vx_ot_at hW0 hvm.symm (hgood w (List.mem_cons_of_mem _ (List.mem_cons_of_mem _ hw))) (hat w hw)
  have hk' : (Cond.classLink own ik cls).before args s' = true := vx_ot_at hW0 hvm.symm (hgood _ List.mem_cons_self) hk
  have hini' : (Cond.initialized cls).before args s' = true := vx_ot_at hW0 hvm.symm (hgood _ (List.mem_cons_of_mem _ List.mem_cons_self)) hini
  have hU' : vx_Zq Bundle.tN "UNASSIGNED_STACK" Bundle.steD A s' s'.heap := by rw [hhp]; exact vx_Zq.moved hW0.alike (hU.kept hS.2.1)
  have hN' : vx_Zq Bundle.tN "SUPPRESSED_SENTINEL" Bundle.listD A s' s'.heap := by rw [hhp]; exact vx_Zq.moved hW0.alike (hN.kept hS.2.1)
  have h : ∀ w ∈ Bundle.ownAtoms0 own ic cls names, w.before args s' = true := vx_own hat' (vx_isRefq hU'.1) (vx_isRefq hN'.1) hU'.2.word hN'.2.word
  have hown' : s'.vm.findClass own = some m.cls := by rw [hvm]; exact hown
  have hins : (Cond.instantiable cls 6).before args s' = true := h _ (by simp [Bundle.ownAtoms0])
  obtain ⟨vm₁, cX, kX, hfX, hkX, -, -, X₁, st1⟩ := Y.newCold hexec (own := own) (C := cls) (index := ik) (n := 6) hown' hk' hins hini'
    (g := F0 m pc ls rest) rfl (by rw [hb]; exact d0) (Nat.le_refl _) (Nat.le_refl _)
  generalize hT1 : (T.setVm vm₁).pushCell { cls := cX, slots := kX.instanceTypes.map defaultValue, vm := .none } = T1 at X₁ st1
  have hcat : (Value.ref T.heap.size).category = 1 := rfl
  have hcellA : T1.heap[T.heap.size]? = some (freshCell cX kX) := by rw [← hT1]; exact State.heap_pushCell_size _ _
  have d3' : decode c.code (pc + 3) = .ok (.dup, 1) := by rw [hb]; exact d3
  obtain ⟨U, hsteps, hrun, hend, hW, hsame, ce, hce, hO⟩ := X₁.ctorThrow0 hexec htr (own := own) (cls := cls) (names := names) (ic := ic) hown' hcls hnames h (fun x hx => nomatch hx) hfX hkX hcellA (by rw [hhp, hT]; exact Nat.le_refl _)
    (g := { method := m, pc := pc + 4, locals := ls, stack := .ref T.heap.size :: .ref T.heap.size :: rest, locked := none }) rfl hsize rfl rfl (rest := rest) rfl
    (by rw [hb]; exact d4) (by rw [hb]; exact d7) hout hRframes (by simp only [List.map_cons, List.sum_cons, hcat]; omega) hlocks
  obtain ⟨f1, f2⟩ := vx_frame hsame
  rw [hhp] at f1 f2
  have f3 : U.heap.size = H.size + 1 := by
    have g1 : U.heap.size ≤ s'.heap.size + 1 := hsame.2.2.1
    have g2 := (Array.getElem?_eq_some_iff.mp hce).1
    rw [hhp] at g1
    rw [hT] at g2
    omega
  have hWs : s.WarmedH U.vm := State.WarmedH.trans hW0 hW
  have hcl : s.vm.findClass cls = some ce.cls := by
    have h9 := hO.cls
    rw [hvm] at h9
    exact h9
  have hall : s.sameButNew ({ U with vm := s.vm } : State) locs mc ms := by
    subst hA
    obtain ⟨e1, e2⟩ := hsame
    rw [State.setFrames_setFrames] at e1
    have h2 : (T.setVm s.vm).sameButNew ({ U with vm := s.vm } : State) [] (0 + 1) (0 + 6) := ⟨e1, e2⟩
    have h3 := X.same.trans h2
    rw [List.append_nil] at h3
    exact h3.mono hc hs
  refine ⟨U, ?_, .threw T.heap.size, hrun, hend, Or.inr ⟨T.heap.size, rfl, cls, ce, locs, hx U hWs.alike f3 (fun q hq => f2 q hq (fun z hz => nomatch hz)), hce, hO.vm, hcl, hWs, hall, hf⟩⟩
  refine st1 _ ?_
  show Steps p.tables e below (T1.setTop { method := m, pc := pc + 3, locals := ls, stack := .ref T.heap.size :: rest, locked := none }) _
  jvm_step X₁.here [X₁.here.top, hexec, d3', Value.category]
  exact hsteps
end THROWR
/-! entry, returns -/
section RETR
variable {Γ : Gm} {M : MI} {d pc : Nat} {L : List (Option Value)} {st : List Value} {σ : AH} {Q : Oc → AH → Prop}
theorem lvh.entry {vs : List Value} {n : Nat} {L0 : List (Option Value)} (h : (lg_sl vs).length ≤ n) (hL : lvp 0 L0 = lv_args 0 vs) : lvh ((lg_sl vs ++ List.replicate (n - (lg_sl vs).length) Slot.unset).toArray) n L0 := by
  unfold lvh
  rw [hL]
  exact lv_entry vs h
theorem EV.enter {vs : List Value} (L0 : List (Option Value)) (hH : mH M = []) (hy : plainName (mY M).cls = true) (hn : (lg_sl vs).length ≤ mN M) (hL : lvp 0 L0 = lv_args 0 vs) (k : EV Γ M d 0 L0 [] σ Q) : RUN Γ d M vs σ Q := by
  intro hw
  obtain ⟨o, σ', ⟨h1, h2, h⟩, q⟩ := k hw
  refine ⟨o, σ', ⟨h1, h2, ?_⟩, q⟩
  refine vx_ofW (cc := mC M) (maxL := mN M) (ret := mR M) (ws' := AW) hy (by unfold wsM wdM; rw [hH]) ?_
  intro p e s m args below meth c s₁ B hml ht hv
  obtain ⟨ha, hP, hK, hS⟩ := hv
  subst ha
  have hts := atoms_spec (ws := wsM M) B.pre
  have hT : c.exceptionTable.toList = tableOf (mH M) := by
    rw [hH]
    cases hl : c.exceptionTable.toList with
    | nil => rfl
    | cons x r => exact (ht x (by rw [hl]; exact List.mem_cons_self)).elim
  have h9 := h p e s m vs.toArray below meth c s.heap [] _ (hc σ) (hv σ) ⟨B.exec, B.bytes, hml, findClass_of_methodNamed B.named, B.notSynchronized, B.returns, hT, (name_of_methodNamed B.named B.method).1, fun w hw9 => hts w (List.mem_cons_of_mem _ hw9), hK, hS⟩ va_S.rf hP (lvh.entry hn hL) (Nat.le_refl _) (Nat.le_refl _)
  rw [Nat.sub_self, Nat.sub_self] at h9
  rw [lg_entry_eq]
  exact h9
theorem EV.enterH {vs : List Value} (L0 : List (Option Value)) {x : Nat × Nat × Nat × Nat} {r : List (Nat × Nat × Nat × Nat)} (hH : mH M = x :: r) (hy : plainName (mY M).cls = true) (hn : (lg_sl vs).length ≤ mN M) (hL : lvp 0 L0 = lv_args 0 vs) (k : EV Γ M d 0 L0 [] σ Q) : RUN Γ d M vs σ Q := by
  intro hw
  obtain ⟨o, σ', ⟨h1, h2, h⟩, q⟩ := k hw
  refine ⟨o, σ', ⟨h1, h2, ?_⟩, q⟩
  refine vx_ofWH (cc := mC M) (maxL := mN M) (ret := mR M) (hh := mH M) (ws' := AW) hy (by unfold wsM wdM; rw [hH]) ?_
  intro p e s m args below meth c s₁ B hml hv
  obtain ⟨ha, hP, hK, hS⟩ := hv
  subst ha
  have hts := atoms_spec (ws := wsM M) B.pre
  have hwd : (Cond.codeWith (mY M) (mC M) (mN M) (mR M) (mH M)).before vs.toArray s = true := by
    have h9 := hts (wdM M) List.mem_cons_self
    unfold wdM at h9
    rw [hH] at h9 ⊢
    exact h9
  have h9 := h p e s m vs.toArray below meth c s.heap [] _ (hc σ) (hv σ) ⟨B.exec, B.bytes, hml, findClass_of_methodNamed B.named, B.notSynchronized, B.returns, vx_table (x := mY M) B hwd, (name_of_methodNamed B.named B.method).1, fun w hw9 => hts w (List.mem_cons_of_mem _ hw9), hK, hS⟩ va_S.rf hP (lvh.entry hn hL) (Nat.le_refl _) (Nat.le_refl _)
  rw [Nat.sub_self, Nat.sub_self] at h9
  rw [lg_entry_eq]
  exact h9
/-- a return: what W's row for it asks -/
theorem EV.ret {v : Option Value} (f : ∀ (p : Program) (e : Env) (R : Room) (s : State) (m : MethodId) (args : Array Value) (below : List Frame) (meth : Method) (c : Code) (H : Heap) (locs : List Loc) (cells slots : Nat) (ls : Array Slot) (Qc : Array Value → State → Outcome → State → Prop),
      CX Γ M p s m args meth c → (∀ t : State, t.heap = H → s.WarmedH t.vm → Qc args s (.returned v) t) → (∀ q ∈ locs, ownA Γ q.base) → W p (gL Γ) e R s m args below meth c H locs cells slots (MQ below Qc args s cells slots (ownA Γ)) (F0 m pc ls st))
    (hq : Q (.inl v) σ) : EV Γ M d pc L st σ Q := by
  intro hw
  refine ⟨.inl v, σ, ⟨Nat.le_refl _, Nat.le_refl _, fun p e s m args below meth c H locs ls k0 n0 C S P l a b => vx_ret (f p e _ s m args below meth c H locs _ _ ls _ C (fun t ht hW => ?_) S.2.2)⟩, hw, hq⟩
  exact ⟨⟨v, rfl, rfl⟩, by rw [ht]; exact P.moved hW.alike, S.F ht⟩
theorem EV.iret {v : Int32} (hr : mR M = some .int) (hd : decode (mC M) pc = .ok (.ireturn, 1)) (hq : Q (.inl (some (.int v))) σ) : EV Γ M d pc L [.int v] σ Q :=
  EV.ret (fun p e R s m args below meth c H locs cells slots ls Qc C a b => W.iret C.1 C.2.1 (C.2.2.2.2.2.1.trans hr) a b hd C.2.2.2.2.1) hq
theorem EV.zret {v : Int32} {ty : FieldType} (hr : mR M = some ty) (hn : narrow ty (.int v) = .int v) (hd : decode (mC M) pc = .ok (.ireturn, 1)) (hq : Q (.inl (some (.int v))) σ) : EV Γ M d pc L [.int v] σ Q :=
  EV.ret (fun p e R s m args below meth c H locs cells slots ls Qc C a b => W.zret C.1 C.2.1 (C.2.2.2.2.2.1.trans hr) hn a b hd C.2.2.2.2.1) hq
theorem EV.lret {v : Int64} (hr : mR M = some .long) (hd : decode (mC M) pc = .ok (.lreturn, 1)) (hq : Q (.inl (some (.long v))) σ) : EV Γ M d pc L [.long v] σ Q :=
  EV.ret (fun p e R s m args below meth c H locs cells slots ls Qc C a b => W.lret C.1 C.2.1 (C.2.2.2.2.2.1.trans hr) a b hd C.2.2.2.2.1) hq
theorem EV.dret {v : UInt64} (hr : mR M = some .double) (hd : decode (mC M) pc = .ok (.dreturn, 1)) (hq : Q (.inl (some (.double v))) σ) : EV Γ M d pc L [.double v] σ Q :=
  EV.ret (fun p e R s m args below meth c H locs cells slots ls Qc C a b => W.dret C.1 C.2.1 (C.2.2.2.2.2.1.trans hr) a b hd C.2.2.2.2.1) hq
theorem EV.aret {v : Nat} {ty : FieldType} (hr : mR M = some ty) (ht : (∃ n, ty = .object n) ∨ ∃ t, ty = .array t) (hd : decode (mC M) pc = .ok (.areturn, 1)) (hq : Q (.inl (some (.ref v))) σ) : EV Γ M d pc L [.ref v] σ Q :=
  EV.ret (fun p e R s m args below meth c H locs cells slots ls Qc C a b => W.aret C.1 C.2.1 (C.2.2.2.2.2.1.trans hr) ht (Or.inr ⟨v, rfl⟩) a b hd C.2.2.2.2.1) hq
theorem EV.aretN {ty : FieldType} (hr : mR M = some ty) (ht : (∃ n, ty = .object n) ∨ ∃ t, ty = .array t) (hd : decode (mC M) pc = .ok (.areturn, 1)) (hq : Q (.inl (some .null)) σ) : EV Γ M d pc L [.null] σ Q :=
  EV.ret (fun p e R s m args below meth c H locs cells slots ls Qc C a b => W.aret C.1 C.2.1 (C.2.2.2.2.2.1.trans hr) ht (Or.inl rfl) a b hd C.2.2.2.2.1) hq
theorem EV.vret (hr : mR M = none) (hd : decode (mC M) pc = .ok (.return_, 1)) (hq : Q (.inl none) σ) : EV Γ M d pc L [] σ Q :=
  EV.ret (fun p e R s m args below meth c H locs cells slots ls Qc C a b => W.vret C.1 C.2.1 (C.2.2.2.2.2.1.trans hr) a b hd C.2.2.2.2.1) hq
/-- entries ik, ic of own's pool: a class that is thrown, its constructor; its classes above -/
def TH (own : String) (ik ic : Nat) (cls : String) (names : List String) : Prop := Bundle.fit cls = true ∧ (∀ n ∈ names, Bundle.fit n = true) ∧ Cond.classLink own ik cls ∈ AW ∧ Cond.initialized cls ∈ AW ∧ (∀ w ∈ vx_at0 own ic cls names, w ∈ lw_tbl ∧ (goodWord w = true ∨ ngW w = true)) ∧ ∀ w ∈ Cond.classLink own ik cls :: Cond.initialized cls :: vx_at0 own ic cls names, vx_ot w = true
theorem EV.throw0 {cls : String} {names : List String} {ik ic : Nat} (hH : mH M = []) (ht : TH (mY M).cls ik ic cls names) (hd : names.length + 4 ≤ d) (d0 : decode (mC M) pc = .ok (.new ik, 3)) (d3 : decode (mC M) (pc + 3) = .ok (.dup, 1)) (d4 : decode (mC M) (pc + 4) = .ok (.invokespecial ic, 3)) (d7 : decode (mC M) (pc + 7) = .ok (.athrow, 1)) (hq : Q (.inr cls) (thr σ)) : EV Γ M d pc L [] σ Q := by
  intro hw
  refine ⟨.inr cls, thr σ, ⟨by rw [hc_thr]; omega, by rw [hv_thr]; omega, fun p e s m args below meth c H locs ls k0 n0 C S P l a b => ?_⟩, hw.thr, hq⟩
  obtain ⟨t1, t2, t3, t4, t5, t6⟩ := ht
  obtain ⟨hx, hb, hml, hown, hlocks, -, htab, -, hts, hK, hST⟩ := C
  refine my_throw0 (A := ownA Γ) hx hb hw.2.2.2.2 hown t1 t2 (hts _ t3) (hts _ t4) (fun w h9 => ?_) t6 hST.2.1 hST.2.2 S (l.1.trans hml.symm) d0 d3 d4 d7 (fun x hx9 => ?_) ?_ ?_ ?_ ?_ hlocks (fun t hvm hz ho => ?_) S.2.2 ?_ ?_
  · obtain ⟨g1, g2⟩ := t5 w h9
    rcases g2 with g2 | g2
    · exact hts _ (List.mem_filter.mpr ⟨g1, g2⟩)
    · exact va_Nw.use (by cases w <;> first | rfl | (simp [ngW] at g2; done) | (have g3 := t6 _ (List.mem_cons_of_mem _ (List.mem_cons_of_mem _ h9)); simpa [vx_ot, goodWord, Cond.onTables] using g3)) (hK.2.1 w g1 g2)
  · rw [htab, hH] at hx9
    exact absurd hx9 List.not_mem_nil
  · show names.length + 3 < d
    omega
  · show 0 + (13 * (names.length + 1) + 42) ≤ 36 * d
    omega
  · show hc σ - k0 + 1 ≤ hc (thr σ) - k0
    rw [hc_thr]; omega
  · show hv σ - n0 + 6 ≤ hv (thr σ) - n0
    rw [hv_thr]; omega
  · refine ⟨rfl, (P.thr ho hz).moved hvm, ?_⟩
    exact ⟨by rw [hz]; have := S.1; omega, fun q h1 h2 => (ho q (Nat.lt_of_lt_of_le h1 S.1)).trans (S.2.1 q h1 h2)⟩
  · rw [hc_thr]; omega
  · rw [hv_thr]; omega
end RETR
