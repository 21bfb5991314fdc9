/-! THE REST: library members, statics, rows of references, catching; calls by what they answer. -/
section RESTR
variable {Γ : Gm} {M : MI} {d pc : Nat} {L : List (Option Value)} {st st0 : List Value} {σ : AH} {Q : Oc → AH → Prop}
theorem EV.readR {pc' : Nat} {st' : List Value}
    (f : ∀ (p : Program) (e : Env) (R : Room) (s : State) (m : MethodId) (args : Array Value) (below : List Frame) (meth : Method) (c : Code) (H : Heap) (locs : List Loc) (cells slots : Nat) (Z : State → Prop) (ls : Array Slot),
      CX Γ M p s m args meth c → va_S (ownA Γ) s.heap H locs → HP Γ σ s H → ls.size = mN M → R.frames = d → R.locals = 36 * d → cells ≤ R.cells → slots ≤ R.slots → W p (gL Γ) e R s m args below meth c H locs cells slots Z (F0 m pc' ls st') → W p (gL Γ) e R s m args below meth c H locs cells slots Z (F0 m pc ls st))
    (k : EV Γ M d pc' L st' σ Q) : EV Γ M d pc L st σ Q := by
  intro hw
  obtain ⟨o, σ', ⟨h1, h2, h⟩, q⟩ := k hw
  exact ⟨o, σ', ⟨h1, h2, fun p e s m args below meth c H locs ls k0 n0 C S P l a b => f p e _ s m args below meth c H locs _ _ _ ls C S P l.1 rfl rfl (by show _ ≤ hc σ' - k0; omega) (by show _ ≤ hv σ' - n0; omega) (h p e s m args below meth c H locs ls k0 n0 C S P l a b)⟩, q⟩
theorem EV.writeR {pc' : Nat} {st' : List Value} {τ : AH} (ec : hc τ = hc σ) (ev : hv τ = hv σ) (hW : WF Γ σ → WF Γ τ)
    (f : ∀ (p : Program) (e : Env) (R : Room) (s : State) (m : MethodId) (args : Array Value) (below : List Frame) (meth : Method) (c : Code) (H : Heap) (locs : List Loc) (cells slots : Nat) (Z : State → Prop) (ls : Array Slot),
      CX Γ M p s m args meth c → va_S (ownA Γ) s.heap H locs → WF Γ σ → HP Γ σ s H → ls.size = mN M → R.frames = d → R.locals = 36 * d → (∀ H' locs', va_S (ownA Γ) s.heap H' locs' → HP Γ τ s H' → W p (gL Γ) e R s m args below meth c H' locs' cells slots Z (F0 m pc' ls st')) → W p (gL Γ) e R s m args below meth c H locs cells slots Z (F0 m pc ls st))
    (k : EV Γ M d pc' L st' τ Q) : EV Γ M d pc L st σ Q := by
  intro hw
  obtain ⟨o, σ', ⟨h1, h2, h⟩, q⟩ := k (hW hw)
  refine ⟨o, σ', ⟨ec ▸ h1, ev ▸ h2, fun p e s m args below meth c H locs ls k0 n0 C S P l a b => f p e _ s m args below meth c H locs _ _ _ ls C S hw P l.1 rfl rfl (fun H' locs' S' P' => ?_)⟩, q⟩
  have h9 := h p e s m args below meth c H' locs' ls k0 n0 C S' P' l (by rw [ec]; exact a) (by rw [ev]; exact b)
  rw [ec, ev] at h9
  exact h9
def MXL (own : String) (idx : Nat) : Prop := Cond.methodLink own idx Lib.Math.max.name ∈ AW ∧ Cond.static Lib.Math.max.name ∈ AW ∧ Cond.initialized "java/lang/Math" ∈ AW ∧ Cond.code Lib.Math.max.name Lib.Math.max.code 2 (some .int) ∈ AW
def MNL (own : String) (idx : Nat) : Prop := Cond.methodLink own idx Lib.Math.min.name ∈ AW ∧ Cond.static Lib.Math.min.name ∈ AW ∧ Cond.initialized "java/lang/Math" ∈ AW ∧ Cond.code Lib.Math.min.name Lib.Math.min.code 2 (some .int) ∈ AW
theorem EV.mmax (pc' : Nat) (hp : pc + 3 = pc') {idx : Nat} {x y : Int32} (hl : MXL (mY M).cls idx) (hd1 : 1 ≤ d) (hcat : (st.map fun v => v.category).sum ≤ 8) (hd : decode (mC M) pc = .ok (.invokestatic idx, 3)) (k : EV Γ M d pc' L (.int (if x < y then y else x) :: st) σ Q) : EV Γ M d pc L (.int y :: .int x :: st) σ Q := by
  subst hp
  refine EV.readR (fun p e R s m args below meth c H locs cells slots Z ls C S P hls hRf hRl hc1 hs1 w => ?_) k
  obtain ⟨hx, hb, hml, hown, -, -, -, -, hts, hK, hST⟩ := C
  exact va_mmax hx hb (hml.trans hls.symm) hown (hts _ hl.1) (hts _ hl.2.1) (hts _ hl.2.2.1) (hts _ hl.2.2.2) (by omega) (by omega) hc1 hs1 hd w
theorem EV.mmin (pc' : Nat) (hp : pc + 3 = pc') {idx : Nat} {x y : Int32} (hl : MNL (mY M).cls idx) (hd1 : 1 ≤ d) (hcat : (st.map fun v => v.category).sum ≤ 8) (hd : decode (mC M) pc = .ok (.invokestatic idx, 3)) (k : EV Γ M d pc' L (.int (if y < x then y else x) :: st) σ Q) : EV Γ M d pc L (.int y :: .int x :: st) σ Q := by
  subst hp
  refine EV.readR (fun p e R s m args below meth c H locs cells slots Z ls C S P hls hRf hRl hc1 hs1 w => ?_) k
  obtain ⟨hx, hb, hml, hown, -, -, -, -, hts, hK, hST⟩ := C
  exact va_mmin hx hb (hml.trans hls.symm) hown (hts _ hl.1) (hts _ hl.2.1) (hts _ hl.2.2.1) (hts _ hl.2.2.2) (by omega) (by omega) hc1 hs1 hd w
def OBI (own : String) (idx : Nat) : Prop := Cond.methodLink own idx Lib.objectInit ∈ AW ∧ Cond.instanceMethod Lib.objectInit ∈ AW ∧ Cond.code Lib.objectInit ⟨#[0xb1]⟩ 1 none ∈ AW
theorem EV.objInit (pc' : Nat) (hp : pc + 3 = pc') {idx a : Nat} (hl : OBI (mY M).cls idx) (hd1 : 1 ≤ d) (hcat : (st.map fun v => v.category).sum ≤ 8) (hd : decode (mC M) pc = .ok (.invokespecial idx, 3)) (k : EV Γ M d pc' L st σ Q) : EV Γ M d pc L (.ref a :: st) σ Q := by
  subst hp
  refine EV.readR (fun p e R s m args below meth c H locs cells slots Z ls C S P hls hRf hRl hc1 hs1 w => ?_) k
  obtain ⟨hx, hb, hml, hown, -, -, -, -, hts, hK, hST⟩ := C
  exact W.objInit hx hb hown (hts _ hl.1) (hts _ hl.2.1) (hts _ hl.2.2) rfl (hls.trans hml.symm) rfl hd (by omega) (by show 2 * 0 + _ + 12 ≤ _; omega) w
theorem EV.getW (pc' : Nat) (hp : pc + 3 = pc') {idx : Nat} (hl : Cond.fieldLink (mY M).cls idx "FamilyStore$Rows" "WITH" "[J" ∈ AW) (hd : decode (mC M) pc = .ok (.getstatic idx, 3)) (k : EV Γ M d pc' L (.ref (wth Γ) :: st) σ Q) : EV Γ M d pc L st σ Q := by
  subst hp
  refine EV.readR (fun p e R s m args below meth c H locs cells slots Z ls C S P hls hRf hRl hc1 hs1 w => ?_) k
  obtain ⟨hx, hb, hml, hown, -, -, -, -, hts, hK, hST⟩ := C
  exact va_gets hx hb hST.1 S hown (hts _ hl) (fun _ h => h) hd w
def ACL (own : String) (idx : Nat) : Prop := Cond.methodLink own idx arraycopyName ∈ AW ∧ Cond.native arraycopyName ∈ AW ∧ Cond.static arraycopyName ∈ AW ∧ Cond.initialized "java/lang/System" ∈ AW
theorem EV.acopyJ (pc' : Nat) (hp : pc + 3 = pc') {idx a0 a n0 n1 : Nat} {isp idp il : Int32} {sp dp n : Nat} (hl : ACL (mY M).cls idx) (hd2 : 2 ≤ d) (hcat : (st.map fun v => v.category).sum ≤ 8) (hd : decode (mC M) pc = .ok (.invokestatic idx, 3)) (ha0 : hs σ a0 = some (23, n0)) (ha1 : hs σ a = some (23, n1)) (hsp : isp.toInt = (sp : Int)) (hdp : idp.toInt = (dp : Int)) (hn : il.toInt = (n : Int)) (h4 : sp + n ≤ n0) (h5 : dp + n ≤ n1)
    (k : EV Γ M d pc' L st (rowJ σ a (va_cpy (gj σ a0) (gj σ a) sp dp n)) Q) : EV Γ M d pc L (.int il :: .int idp :: .ref a :: .int isp :: .ref a0 :: st) σ Q := by
  subst hp
  have ncl : ∀ {z : Int32} {q : Nat}, z.toInt = (q : Int) → z.toNatClampNeg = q := fun h => by show Int.toNat _ = _; rw [h]; rfl
  have nng : ∀ {z : Int32} {q : Nat}, z.toInt = (q : Int) → ¬ z < 0 := fun h h2 => by
    have h3 := Int32.lt_iff_toInt_lt.mp h2
    rw [h] at h3
    have h4 : ((0 : Int32)).toInt = 0 := by decide
    omega
  refine EV.writeR (τ := rowJ σ a (va_cpy (gj σ a0) (gj σ a) sp dp n)) rfl rfl (fun h => h.upd ha1 (by decide) rfl rfl (fun b hb => (off_J σ a _ b hb).2.1)) (fun p e R s m args below meth c H locs cells slots Z ls C S hw P hls hRf hRl w => ?_) k
  obtain ⟨hx, hb, hml, hown, -, -, -, -, hts, hK, hST⟩ := C
  intro T hT X
  have hc0 : H[a0]? = some (arrV (gE Γ 23) n0 (fun j => .long (gj σ a0 j))) := (P.1 _ _ _ ha0).arr (by decide) (by decide)
  have hc1 : H[a]? = some (arrV (gE Γ 23) n1 (fun j => .long (gj σ a j))) := (P.1 _ _ _ ha1).arr (by decide) (by decide)
  obtain ⟨-, k0, hk0, cm0, hkk0⟩ := hK.arr 3 rfl n0 (fun j => .long (gj σ a0 j))
  obtain ⟨-, k1, hk1, cm1, hkk1⟩ := hK.arr 3 rfl n1 (fun j => .long (gj σ a j))
  obtain ⟨vm', X', step⟩ := X.arraycopy hx hown (hts _ hl.1) (hts _ hl.2.1) (hts _ hl.2.2.1) (hts _ hl.2.2.2) (src := a0) (dst := a) (cs := arrV (gE Γ 23) n0 (fun j => .long (gj σ a0 j))) (cd := arrV (gE Γ 23) n1 (fun j => .long (gj σ a j))) (srcPos := isp) (destPos := idp) (n := il) (by rw [hT]; exact hc0) (by rw [hT]; exact hc1)
    (fun _ h => by cases h) (fun _ h => by cases h) (fun h => by cases h) (fun h => by cases h) hk0 hk1 hkk0 hkk1 (by simp [refKind]) (nng hsp) (nng hdp) (nng hn)
    (by rw [hsp, hn, arrV_size]; omega)
    (by rw [hdp, hn, arrV_size]; omega)
    (fun vm₁ _ i hi => by
      rw [ncl hn] at hi
      have e : (arrV (gE Γ 23) n0 (fun j => .long (gj σ a0 j))).slots.getD (isp.toNatClampNeg + i) .null = .long (gj σ a0 (sp + i)) := by
        rw [Array.getD_eq_getD_getElem?, ncl hsp, arrV_read _ _ (by omega)]
        rfl
      refine ⟨?_, ?_⟩
      · rw [e]
        rfl
      · rw [e]
        exact trivial)
    (g := F0 m pc ls (.int il :: .int idp :: .ref a :: .int isp :: .ref a0 :: st)) rfl (by rw [hml]; exact hls) (rest := st) rfl (by rw [hb]; exact hd) (by omega) (by
      have hq : nativeFrameWords "java/lang/System" "arraycopy" 5 ≤ 20 := by decide +kernel
      show 2 * 0 + _ + _ ≤ _
      omega)
  have e1 : copied (arrV (gE Γ 23) n0 (fun j => .long (gj σ a0 j))) (arrV (gE Γ 23) n1 (fun j => .long (gj σ a j))) isp idp il = arrV (gE Γ 23) n1 (fun j => .long (va_cpy (gj σ a0) (gj σ a) sp dp n j)) := by
    have h9 := va_copied (n1 := n1) (dp := dp) (fun z => .long z) (gE Γ 23) (gE Γ 23) (gj σ a0) (gj σ a) h4
    unfold copied
    rw [ncl hsp, ncl hdp, ncl hn]
    exact h9
  rw [e1] at X' step
  have hlt : a < H.size := (Array.getElem?_eq_some_iff.mp hc1).1
  have hheap : ((T.setVm vm').setCell a (arrV (gE Γ 23) n1 (fun j => .long (va_cpy (gj σ a0) (gj σ a) sp dp n j)))).heap = H.setIfInBounds a (arrV (gE Γ 23) n1 (fun j => .long (va_cpy (gj σ a0) (gj σ a) sp dp n j))) := by rw [← hT]; rfl
  have oq : ∀ q : Nat, q ≠ a → (H.setIfInBounds a (arrV (gE Γ 23) n1 (fun j => .long (va_cpy (gj σ a0) (gj σ a) sp dp n j))))[q]? = H[q]? := fun q hq => by simp [Array.getElem?_setIfInBounds, Ne.symm hq]
  have hA : ownA Γ a := hw.2.2.2.1 _ _ _ ha1 (by decide)
  obtain ⟨t, a1, b1⟩ := w _ _ ⟨by simp; exact S.1, fun q g1 g2 => by
      rw [oq q (fun e => g2 (by rw [e]; exact hA))]
      exact S.2.1 q g1 g2, fun q hq => by
      rcases List.mem_append.mp hq with h | h
      · exact S.2.2 q h
      · obtain ⟨z, -, hz⟩ := List.mem_map.mp h
        rw [← hz]
        exact hA⟩ (P.upd ha1 (by simp) rfl rfl (off_J σ a _) oq (cellOK.ofArr (by decide) (by decide) (by
          simp only [Array.getElem?_setIfInBounds, hlt, if_true]
          congr 2
          funext j
          simp [val, tk, rowJ, up, gj]))) _ hheap X'
  exact ⟨t, step t a1, b1⟩
theorem EV.acopyI (pc' : Nat) (hp : pc + 3 = pc') {idx a0 a n0 n1 : Nat} {isp idp il : Int32} {sp dp n : Nat} (hl : ACL (mY M).cls idx) (hd2 : 2 ≤ d) (hcat : (st.map fun v => v.category).sum ≤ 8) (hd : decode (mC M) pc = .ok (.invokestatic idx, 3)) (ha0 : hs σ a0 = some (22, n0)) (ha1 : hs σ a = some (22, n1)) (hsp : isp.toInt = (sp : Int)) (hdp : idp.toInt = (dp : Int)) (hn : il.toInt = (n : Int)) (h4 : sp + n ≤ n0) (h5 : dp + n ≤ n1)
    (k : EV Γ M d pc' L st (rowI σ a (va_cpy (gi σ a0) (gi σ a) sp dp n)) Q) : EV Γ M d pc L (.int il :: .int idp :: .ref a :: .int isp :: .ref a0 :: st) σ Q := by
  subst hp
  have ncl : ∀ {z : Int32} {q : Nat}, z.toInt = (q : Int) → z.toNatClampNeg = q := fun h => by show Int.toNat _ = _; rw [h]; rfl
  have nng : ∀ {z : Int32} {q : Nat}, z.toInt = (q : Int) → ¬ z < 0 := fun h h2 => by
    have h3 := Int32.lt_iff_toInt_lt.mp h2
    rw [h] at h3
    have h4 : ((0 : Int32)).toInt = 0 := by decide
    omega
  refine EV.writeR (τ := rowI σ a (va_cpy (gi σ a0) (gi σ a) sp dp n)) rfl rfl (fun h => h.upd ha1 (by decide) rfl rfl (fun b hb => (off_I σ a _ b hb).2.1)) (fun p e R s m args below meth c H locs cells slots Z ls C S hw P hls hRf hRl w => ?_) k
  obtain ⟨hx, hb, hml, hown, -, -, -, -, hts, hK, hST⟩ := C
  intro T hT X
  have hc0 : H[a0]? = some (arrV (gE Γ 22) n0 (fun j => .int (gi σ a0 j))) := (P.1 _ _ _ ha0).arr (by decide) (by decide)
  have hc1 : H[a]? = some (arrV (gE Γ 22) n1 (fun j => .int (gi σ a j))) := (P.1 _ _ _ ha1).arr (by decide) (by decide)
  obtain ⟨-, k0, hk0, cm0, hkk0⟩ := hK.arr 2 rfl n0 (fun j => .int (gi σ a0 j))
  obtain ⟨-, k1, hk1, cm1, hkk1⟩ := hK.arr 2 rfl n1 (fun j => .int (gi σ a j))
  obtain ⟨vm', X', step⟩ := X.arraycopy hx hown (hts _ hl.1) (hts _ hl.2.1) (hts _ hl.2.2.1) (hts _ hl.2.2.2) (src := a0) (dst := a) (cs := arrV (gE Γ 22) n0 (fun j => .int (gi σ a0 j))) (cd := arrV (gE Γ 22) n1 (fun j => .int (gi σ a j))) (srcPos := isp) (destPos := idp) (n := il) (by rw [hT]; exact hc0) (by rw [hT]; exact hc1)
    (fun _ h => by cases h) (fun _ h => by cases h) (fun h => by cases h) (fun h => by cases h) hk0 hk1 hkk0 hkk1 (by simp [refKind]) (nng hsp) (nng hdp) (nng hn)
    (by rw [hsp, hn, arrV_size]; omega)
    (by rw [hdp, hn, arrV_size]; omega)
    (fun vm₁ _ i hi => by
      rw [ncl hn] at hi
      have e : (arrV (gE Γ 22) n0 (fun j => .int (gi σ a0 j))).slots.getD (isp.toNatClampNeg + i) .null = .int (gi σ a0 (sp + i)) := by
        rw [Array.getD_eq_getD_getElem?, ncl hsp, arrV_read _ _ (by omega)]
        rfl
      refine ⟨?_, ?_⟩
      · rw [e]
        rfl
      · rw [e]
        exact trivial)
    (g := F0 m pc ls (.int il :: .int idp :: .ref a :: .int isp :: .ref a0 :: st)) rfl (by rw [hml]; exact hls) (rest := st) rfl (by rw [hb]; exact hd) (by omega) (by
      have hq : nativeFrameWords "java/lang/System" "arraycopy" 5 ≤ 20 := by decide +kernel
      show 2 * 0 + _ + _ ≤ _
      omega)
  have e1 : copied (arrV (gE Γ 22) n0 (fun j => .int (gi σ a0 j))) (arrV (gE Γ 22) n1 (fun j => .int (gi σ a j))) isp idp il = arrV (gE Γ 22) n1 (fun j => .int (va_cpy (gi σ a0) (gi σ a) sp dp n j)) := by
    have h9 := va_copied (n1 := n1) (dp := dp) (fun z => .int z) (gE Γ 22) (gE Γ 22) (gi σ a0) (gi σ a) h4
    unfold copied
    rw [ncl hsp, ncl hdp, ncl hn]
    exact h9
  rw [e1] at X' step
  have hlt : a < H.size := (Array.getElem?_eq_some_iff.mp hc1).1
  have hheap : ((T.setVm vm').setCell a (arrV (gE Γ 22) n1 (fun j => .int (va_cpy (gi σ a0) (gi σ a) sp dp n j)))).heap = H.setIfInBounds a (arrV (gE Γ 22) n1 (fun j => .int (va_cpy (gi σ a0) (gi σ a) sp dp n j))) := by rw [← hT]; rfl
  have oq : ∀ q : Nat, q ≠ a → (H.setIfInBounds a (arrV (gE Γ 22) n1 (fun j => .int (va_cpy (gi σ a0) (gi σ a) sp dp n j))))[q]? = H[q]? := fun q hq => by simp [Array.getElem?_setIfInBounds, Ne.symm hq]
  have hA : ownA Γ a := hw.2.2.2.1 _ _ _ ha1 (by decide)
  obtain ⟨t, a1, b1⟩ := w _ _ ⟨by simp; exact S.1, fun q g1 g2 => by
      rw [oq q (fun e => g2 (by rw [e]; exact hA))]
      exact S.2.1 q g1 g2, fun q hq => by
      rcases List.mem_append.mp hq with h | h
      · exact S.2.2 q h
      · obtain ⟨z, -, hz⟩ := List.mem_map.mp h
        rw [← hz]
        exact hA⟩ (P.upd ha1 (by simp) rfl rfl (off_I σ a _) oq (cellOK.ofArr (by decide) (by decide) (by
          simp only [Array.getElem?_setIfInBounds, hlt, if_true]
          congr 2
          funext j
          simp [val, tk, rowI, up, gi]))) _ hheap X'
  exact ⟨t, step t a1, b1⟩
end RESTR
