/-! ROWS CLONED, AND Arrays.copyOf. -/
section CLONER
variable {Γ : Gm} {M : MI} {d pc : Nat} {L : List (Option Value)} {st : List Value} {σ : AH} {Q : Oc → AH → Prop}
theorem EV.makeT {pc' n : Nat} {τ : AH} {st' : List Value} (ec : hc τ = hc σ + 1) (ev : hv τ = hv σ + n) (hW : WF Γ σ → WF Γ τ)
    (f : ∀ (p : Program) (e : Env) (R : Room) (s : State) (m : MethodId) (args : Array Value) (below : List Frame) (meth : Method) (c : Code) (H : Heap) (locs : List Loc) (cells slots : Nat) (Z : State → Prop) (ls : Array Slot),
      CX Γ M p s m args meth c → va_S (ownA Γ) s.heap H locs → WF Γ σ → HP Γ σ s H → ls.size = mN M → R.frames = d → R.locals = 36 * d → cells + 1 ≤ R.cells → slots + n ≤ R.slots → (∀ H' locs', va_S (ownA Γ) s.heap H' locs' → HP Γ τ s H' → W p (gL Γ) e R s m args below meth c H' locs' (cells + 1) (slots + n) Z (F0 m pc' ls st')) → W p (gL Γ) e R s m args below meth c H locs cells slots Z (F0 m pc ls st))
    (kk : EV Γ M d pc' L st' τ Q) : EV Γ M d pc L st σ Q := by
  intro hw
  obtain ⟨o, σ', ⟨h1, h2, h⟩, q⟩ := kk (hW hw)
  rw [ec] at h1
  rw [ev] at h2
  refine ⟨o, σ', ⟨by omega, by omega, fun p e s m args below meth c H locs ls k0 n0 C S P l a b => f p e _ s m args below meth c H locs _ _ _ ls C S hw P l.1 rfl rfl ?_ ?_ (fun H' locs' S' P' => ?_)⟩, q⟩
  · show hc σ - k0 + 1 ≤ hc σ' - k0
    omega
  · show hv σ - n0 + n ≤ hv σ' - n0
    omega
  · have h9 := h p e s m args below meth c H' locs' ls k0 n0 C S' P' l (by rw [ec]; omega) (by rw [ev]; omega)
    rw [ec, ev, show hc σ + 1 - k0 = hc σ - k0 + 1 by omega, show hv σ + n - n0 = hv σ - n0 + n by omega] at h9
    exact h9
def CLN (own : String) (idx : Nat) (ad : String) : Prop := Cond.methodLink own idx ⟨ad, "clone", "()Ljava/lang/Object;"⟩ ∈ AW ∧ Cond.sameMethod ad "java/lang/Object" "clone" "()Ljava/lang/Object;" ∈ AW ∧ Cond.native ⟨"java/lang/Object", "clone", "()Ljava/lang/Object;"⟩ ∈ AW ∧ Cond.instanceMethod ⟨"java/lang/Object", "clone", "()Ljava/lang/Object;"⟩ ∈ AW ∧ Cond.selects ad ⟨ad, "clone", "()Ljava/lang/Object;"⟩ ⟨"java/lang/Object", "clone", "()Ljava/lang/Object;"⟩ ∈ AW ∧ Cond.castable ad "java/lang/Cloneable" ∈ lw_tbl
theorem EV.cloneJ (pc' : Nat) (hp : pc + 3 = pc') {a n idx : Nat} (hl : CLN (mY M).cls idx "[J") (hd1 : 1 ≤ d) (hcat : (st.map fun v => v.category).sum ≤ 8) (hd : decode (mC M) pc = .ok (.invokevirtual idx, 3)) (ha : hs σ a = some (23, n)) (k : EV Γ M d pc' L (.ref (lo Γ + hc σ) :: st) (rowJ (mk σ (lo Γ + hc σ) 23 n) (lo Γ + hc σ) (gj σ a)) Q) : EV Γ M d pc L (.ref a :: st) σ Q := by
  subst hp
  have hW9 : WF Γ σ → WF Γ (rowJ (mk σ (lo Γ + hc σ) 23 n) (lo Γ + hc σ) (gj σ a)) := fun h => (h.mk (k := 23) (n := n)).upd (a := lo Γ + hc σ) (k := 23) (n := n) (by rw [hs_mk, up_same]) (by decide) rfl rfl (fun b hb => (off_J _ (lo Γ + hc σ) _ b hb).2.1)
  refine EV.makeT (τ := rowJ (mk σ (lo Γ + hc σ) 23 n) (lo Γ + hc σ) (gj σ a)) (n := n) rfl rfl hW9 (fun p e R s m args below meth c H locs cells slots Z ls C S hw P hls hRf hRl hcells hslots w => ?_) k
  obtain ⟨hx, hb, hml, hown, -, -, -, -, hts, hK, hST⟩ := C
  obtain ⟨l1, l2, l3, l4, l5, l6⟩ := hl
  have hnm : s.vm.findClass "[J" = some (gE Γ 23) := (hK.1.2 3 _ rfl).2
  obtain ⟨c0, t0', f1, f2, f3⟩ := Cond.castable_spec (va_Nw.use (A := args) rfl (hK.2.1 _ l6 rfl))
  have hc0 : c0 = gE Γ 23 := Option.some.inj (f1.symm.trans hnm)
  subst hc0
  intro T hT X
  have hcellH : H[a]? = some (arrV (gE Γ 23) n (val σ 23 a)) := (P.1 _ _ _ ha).arr (by decide) (by decide)
  have hcellT : T.heap[a]? = some (arrV (gE Γ 23) n (val σ 23 a)) := by rw [hT]; exact hcellH
  obtain ⟨-, kA, hkA, comp, hkind⟩ := State.isArrayOf_alike X.warmed.alike (hK.arr 3 rfl 0 (fun _ => .null))
  obtain ⟨-, kS, hkS, compS, hkindS⟩ := hK.arr 3 rfl 0 (fun _ => .null)
  obtain ⟨vm', X', step⟩ := X.cloneArray hx hown (hts _ l1) (hts _ l2) (hts _ l3) (hts _ l4) (hts _ l5) (a := a) (cell := arrV (gE Γ 23) n (val σ 23 a)) hcellT (fun k h => by cases h) (fun h => by cases h) hnm f2 f3
    (fun i v hv => by
      have hk' : T.vm.classes[gE Γ 23]? = some kA := hkA
      have hi : i < n := by
        have h9 := (Array.getElem?_eq_some_iff.mp hv).1
        rw [arrV_size] at h9
        exact h9
      rw [arrV_read _ _ hi] at hv
      cases hv
      show T.fitsSlot (gE Γ 23) .none i (val σ 23 a i) = true
      simp [State.fitsSlot, State.slotType?, hk', hkind, val, tk, fits])
    (g := F0 m pc ls (.ref a :: st)) rfl (by rw [hml]; exact hls) rfl (by rw [hb]; exact hd) (by omega) (by show 2 * 0 + _ + 14 ≤ _; omega) hcells (by rw [arrV_size]; exact hslots) (hloader := Vm.clonesLoader_of_array hkS hkindS)
  rw [arrV_size] at X'
  have hcellE : ({ cls := (arrV (gE Γ 23) n (val σ 23 a)).cls, slots := (arrV (gE Γ 23) n (val σ 23 a)).slots } : Cell) = arrV (gE Γ 23) n (val σ 23 a) := rfl
  rw [hcellE] at X'
  generalize hH1 : H.push (arrV (gE Γ 23) n (val σ 23 a)) = H1
  have z1 : H1.size = H.size + 1 := by rw [← hH1, Array.size_push]
  have e1 : H1[H.size]? = some (arrV (gE Γ 23) n (val σ 23 a)) := by rw [← hH1, Array.getElem?_push_size]
  have o1 : ∀ q : Nat, q < H.size → H1[q]? = H[q]? := fun q hq => by rw [← hH1, Array.getElem?_push, if_neg (Nat.ne_of_lt hq)]
  have P1 : HP Γ (rowJ (mk σ (lo Γ + hc σ) 23 n) (lo Γ + hc σ) (gj σ a)) s H1 := by
    refine ⟨fun b k' n' hb9 => ?_, by rw [z1, P.2]; show _ = lo Γ + (hc σ + 1); omega⟩
    have hb9 : hs (mk σ (lo Γ + hc σ) 23 n) b = some (k', n') := hb9
    rw [hs_mk, up_app] at hb9
    by_cases hba : b = lo Γ + hc σ
    · rw [if_pos hba] at hb9
      cases hb9
      rw [hba]
      refine cellOK.ofArr (by decide) (by decide) ?_
      rw [← P.2, e1]
      congr 2
      funext j
      simp [val, tk, rowJ, up, gj, P.2]
    · rw [if_neg hba] at hb9
      refine (P.1 b k' n' hb9).kept (Vm.Alike.refl _) (o1 b (P.lt hb9)) (val_congr ?_)
      refine ⟨?_, ?_, ?_, ?_⟩ <;> simp [rowJ, mk, gi, gj, gr, gd, up, hba]
  obtain ⟨t, b1, b2⟩ := w H1 _ (mk_S S z1 o1) P1 ((T.setVm vm').pushCell (arrV (gE Γ 23) n (val σ 23 a))) (by rw [← hH1, ← hT]; rfl) X'
  refine ⟨t, step t ?_, b2⟩
  rw [hcellE, hT, P.2]
  exact b1
theorem EV.castJ (pc' : Nat) (hp : pc + 3 = pc') {a n idx : Nat} (hl : Cond.classLink (mY M).cls idx "[J" ∈ AW) (hd : decode (mC M) pc = .ok (.checkcast idx, 3)) (ha : hs σ a = some (23, n)) (k : EV Γ M d pc' L (.ref a :: st) σ Q) : EV Γ M d pc L (.ref a :: st) σ Q := by
  subst hp
  refine EV.read (fun p e R s m args below meth c H locs cells slots Z ls C S P w => ?_) k
  obtain ⟨hx, hb, -, hown, -, -, -, -, hts, hK, -⟩ := C
  have hnm : s.vm.findClass "[J" = some (gE Γ 23) := (hK.1.2 3 _ rfl).2
  have hcellH : H[a]? = some (arrV (gE Γ 23) n (val σ 23 a)) := (P.1 _ _ _ ha).arr (by decide) (by decide)
  intro T hT X
  obtain ⟨vm', X', step⟩ := X.checkcastYes hx hown (hts _ hl) (by rw [hT]; exact hcellH) rfl hnm (va_asg _ _) (g := F0 m pc ls (.ref a :: st)) rfl rfl (by rw [hb]; exact hd)
  obtain ⟨t, a1, b1⟩ := w (T.setVm vm') hT X'
  exact ⟨t, step t a1, b1⟩
theorem EV.cloneI (pc' : Nat) (hp : pc + 3 = pc') {a n idx : Nat} (hl : CLN (mY M).cls idx "[I") (hd1 : 1 ≤ d) (hcat : (st.map fun v => v.category).sum ≤ 8) (hd : decode (mC M) pc = .ok (.invokevirtual idx, 3)) (ha : hs σ a = some (22, n)) (k : EV Γ M d pc' L (.ref (lo Γ + hc σ) :: st) (rowI (mk σ (lo Γ + hc σ) 22 n) (lo Γ + hc σ) (gi σ a)) Q) : EV Γ M d pc L (.ref a :: st) σ Q := by
  subst hp
  have hW9 : WF Γ σ → WF Γ (rowI (mk σ (lo Γ + hc σ) 22 n) (lo Γ + hc σ) (gi σ a)) := fun h => (h.mk (k := 22) (n := n)).upd (a := lo Γ + hc σ) (k := 22) (n := n) (by rw [hs_mk, up_same]) (by decide) rfl rfl (fun b hb => (off_I _ (lo Γ + hc σ) _ b hb).2.1)
  refine EV.makeT (τ := rowI (mk σ (lo Γ + hc σ) 22 n) (lo Γ + hc σ) (gi σ a)) (n := n) rfl rfl hW9 (fun p e R s m args below meth c H locs cells slots Z ls C S hw P hls hRf hRl hcells hslots w => ?_) k
  obtain ⟨hx, hb, hml, hown, -, -, -, -, hts, hK, hST⟩ := C
  obtain ⟨l1, l2, l3, l4, l5, l6⟩ := hl
  have hnm : s.vm.findClass "[I" = some (gE Γ 22) := (hK.1.2 2 _ rfl).2
  obtain ⟨c0, t0', f1, f2, f3⟩ := Cond.castable_spec (va_Nw.use (A := args) rfl (hK.2.1 _ l6 rfl))
  have hc0 : c0 = gE Γ 22 := Option.some.inj (f1.symm.trans hnm)
  subst hc0
  intro T hT X
  have hcellH : H[a]? = some (arrV (gE Γ 22) n (val σ 22 a)) := (P.1 _ _ _ ha).arr (by decide) (by decide)
  have hcellT : T.heap[a]? = some (arrV (gE Γ 22) n (val σ 22 a)) := by rw [hT]; exact hcellH
  obtain ⟨-, kA, hkA, comp, hkind⟩ := State.isArrayOf_alike X.warmed.alike (hK.arr 2 rfl 0 (fun _ => .null))
  obtain ⟨-, kS, hkS, compS, hkindS⟩ := hK.arr 2 rfl 0 (fun _ => .null)
  obtain ⟨vm', X', step⟩ := X.cloneArray hx hown (hts _ l1) (hts _ l2) (hts _ l3) (hts _ l4) (hts _ l5) (a := a) (cell := arrV (gE Γ 22) n (val σ 22 a)) hcellT (fun k h => by cases h) (fun h => by cases h) hnm f2 f3
    (fun i v hv => by
      have hk' : T.vm.classes[gE Γ 22]? = some kA := hkA
      have hi : i < n := by
        have h9 := (Array.getElem?_eq_some_iff.mp hv).1
        rw [arrV_size] at h9
        exact h9
      rw [arrV_read _ _ hi] at hv
      cases hv
      show T.fitsSlot (gE Γ 22) .none i (val σ 22 a i) = true
      simp [State.fitsSlot, State.slotType?, hk', hkind, val, tk, fits])
    (g := F0 m pc ls (.ref a :: st)) rfl (by rw [hml]; exact hls) rfl (by rw [hb]; exact hd) (by omega) (by show 2 * 0 + _ + 14 ≤ _; omega) hcells (by rw [arrV_size]; exact hslots) (hloader := Vm.clonesLoader_of_array hkS hkindS)
  rw [arrV_size] at X'
  have hcellE : ({ cls := (arrV (gE Γ 22) n (val σ 22 a)).cls, slots := (arrV (gE Γ 22) n (val σ 22 a)).slots } : Cell) = arrV (gE Γ 22) n (val σ 22 a) := rfl
  rw [hcellE] at X'
  generalize hH1 : H.push (arrV (gE Γ 22) n (val σ 22 a)) = H1
  have z1 : H1.size = H.size + 1 := by rw [← hH1, Array.size_push]
  have e1 : H1[H.size]? = some (arrV (gE Γ 22) n (val σ 22 a)) := by rw [← hH1, Array.getElem?_push_size]
  have o1 : ∀ q : Nat, q < H.size → H1[q]? = H[q]? := fun q hq => by rw [← hH1, Array.getElem?_push, if_neg (Nat.ne_of_lt hq)]
  have P1 : HP Γ (rowI (mk σ (lo Γ + hc σ) 22 n) (lo Γ + hc σ) (gi σ a)) s H1 := by
    refine ⟨fun b k' n' hb9 => ?_, by rw [z1, P.2]; show _ = lo Γ + (hc σ + 1); omega⟩
    have hb9 : hs (mk σ (lo Γ + hc σ) 22 n) b = some (k', n') := hb9
    rw [hs_mk, up_app] at hb9
    by_cases hba : b = lo Γ + hc σ
    · rw [if_pos hba] at hb9
      cases hb9
      rw [hba]
      refine cellOK.ofArr (by decide) (by decide) ?_
      rw [← P.2, e1]
      congr 2
      funext j
      simp [val, tk, rowI, up, gi, P.2]
    · rw [if_neg hba] at hb9
      refine (P.1 b k' n' hb9).kept (Vm.Alike.refl _) (o1 b (P.lt hb9)) (val_congr ?_)
      refine ⟨?_, ?_, ?_, ?_⟩ <;> simp [rowI, mk, gi, gj, gr, gd, up, hba]
  obtain ⟨t, b1, b2⟩ := w H1 _ (mk_S S z1 o1) P1 ((T.setVm vm').pushCell (arrV (gE Γ 22) n (val σ 22 a))) (by rw [← hH1, ← hT]; rfl) X'
  refine ⟨t, step t ?_, b2⟩
  rw [hcellE, hT, P.2]
  exact b1
theorem EV.castI (pc' : Nat) (hp : pc + 3 = pc') {a n idx : Nat} (hl : Cond.classLink (mY M).cls idx "[I" ∈ AW) (hd : decode (mC M) pc = .ok (.checkcast idx, 3)) (ha : hs σ a = some (22, n)) (k : EV Γ M d pc' L (.ref a :: st) σ Q) : EV Γ M d pc L (.ref a :: st) σ Q := by
  subst hp
  refine EV.read (fun p e R s m args below meth c H locs cells slots Z ls C S P w => ?_) k
  obtain ⟨hx, hb, -, hown, -, -, -, -, hts, hK, -⟩ := C
  have hnm : s.vm.findClass "[I" = some (gE Γ 22) := (hK.1.2 2 _ rfl).2
  have hcellH : H[a]? = some (arrV (gE Γ 22) n (val σ 22 a)) := (P.1 _ _ _ ha).arr (by decide) (by decide)
  intro T hT X
  obtain ⟨vm', X', step⟩ := X.checkcastYes hx hown (hts _ hl) (by rw [hT]; exact hcellH) rfl hnm (va_asg _ _) (g := F0 m pc ls (.ref a :: st)) rfl rfl (by rw [hb]; exact hd)
  obtain ⟨t, a1, b1⟩ := w (T.setVm vm') hT X'
  exact ⟨t, step t a1, b1⟩
end CLONER
theorem cn_J : CLN RJ7 319 "[J" := ⟨aw_of (i := 364) (by decide +kernel) (by decide +kernel), aw_of (i := 365) (by decide +kernel) (by decide +kernel), aw_of (i := 366) (by decide +kernel) (by decide +kernel), aw_of (i := 367) (by decide +kernel) (by decide +kernel), aw_of (i := 368) (by decide +kernel) (by decide +kernel), List.mem_of_getElem? (i := 369) (by decide +kernel)⟩
theorem cc_J : Cond.classLink RJ7 320 "[J" ∈ AW := aw_of (i := 370) (by decide +kernel) (by decide +kernel)
theorem cn_I : CLN RJ7 316 "[I" := ⟨aw_of (i := 380) (by decide +kernel) (by decide +kernel), aw_of (i := 381) (by decide +kernel) (by decide +kernel), aw_of (i := 366) (by decide +kernel) (by decide +kernel), aw_of (i := 367) (by decide +kernel) (by decide +kernel), aw_of (i := 382) (by decide +kernel) (by decide +kernel), List.mem_of_getElem? (i := 383) (by decide +kernel)⟩
theorem cc_I : Cond.classLink RJ7 317 "[I" ∈ AW := aw_of (i := 384) (by decide +kernel) (by decide +kernel)
theorem EV.nqJ {Γ : Gm} {M : MI} {d pc : Nat} {L : List (Option Value)} {st : List Value} {σ : AH} {Q : Oc → AH → Prop} {k n : Nat} {f : Nat → Int64} (kk : ∀ q τ, q = lo Γ + hc σ → τ = rowJ (mk σ q k n) q f → EV Γ M d pc L (.ref q :: st) τ Q) : EV Γ M d pc L (.ref (lo Γ + hc σ) :: st) (rowJ (mk σ (lo Γ + hc σ) k n) (lo Γ + hc σ) f) Q := kk _ _ rfl rfl
theorem EV.nqI {Γ : Gm} {M : MI} {d pc : Nat} {L : List (Option Value)} {st : List Value} {σ : AH} {Q : Oc → AH → Prop} {k n : Nat} {f : Nat → Int32} (kk : ∀ q τ, q = lo Γ + hc σ → τ = rowI (mk σ q k n) q f → EV Γ M d pc L (.ref q :: st) τ Q) : EV Γ M d pc L (.ref (lo Γ + hc σ) :: st) (rowI (mk σ (lo Γ + hc σ) k n) (lo Γ + hc σ) f) Q := kk _ _ rfl rfl
