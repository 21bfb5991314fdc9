/-! ROWS OF REFERENCES, CATCHING, CALLS BY WHAT THEY ANSWER. -/
theorem my_asg (vm : Vm) (c : ClassId) : vm.assignable c c = true := by
  show vm.assignableAux _ c c = true
  unfold Vm.assignableAux
  simp
section REFR
variable {Γ : Gm} {M : MI} {d pc : Nat} {L : List (Option Value)} {st st0 : List Value} {σ : AH} {Q : Oc → AH → Prop}
theorem IX.lo {i : Int32} {n j : Nat} (h : IX i n j) : ¬ i < 0 := fun q => h.in' (Or.inl q)
theorem EV.aastF (pc' : Nat) (hp : pc + 1 = pc') {a n v nv : Nat} {i : Int32} {j : Nat} (hd : decode (mC M) pc = .ok (.aastore, 1)) (ha : hs σ a = some (25, n)) (hj : IX i n j) (hv9 : hs σ v = some (4, nv)) (k : EV Γ M d pc' L st (setR σ a j (some v)) Q) : EV Γ M d pc L (.ref v :: .int i :: .ref a :: st) σ Q := by
  subst hp
  refine EV.write (τ := setR σ a j (some v)) rfl rfl (fun h => h.upd ha (by decide) rfl rfl (fun b hb => (off_R σ a _ b hb).2.1)) (fun p e R s m args below meth c H locs cells slots Z ls C S hw P w => ?_) k
  obtain ⟨hx, hb, -, -, -, -, -, -, hts, hK, -⟩ := C
  obtain ⟨-, cellV, g1, g2, g3, -⟩ := (P.1 _ _ _ hv9).obj (by decide)
  obtain ⟨-, hcls⟩ := hK.1.1 4 _ rfl
  obtain ⟨kA, comp, k1, k2, k3, -⟩ := (hK.1.2 5 _ rfl).2
  have hcomp : comp = (gD Γ).1 4 := Option.some.inj (k3.symm.trans hcls.1)
  subst hcomp
  obtain ⟨kC, hkC, -⟩ := id hcls.2
  refine W.aast (cell := arrV (gE Γ 25) n (val σ 25 a)) hx hb ((P.1 _ _ _ ha).arr (by decide) (by decide)) (fun q h => by cases h) (fun h => by cases h) k1 k2 rfl hkC ⟨hj.lo, by rw [arrV_size, hj.cl]; exact hj.2⟩ g1 (fun q h => by rw [g3] at h; cases h) (by rw [g2]; exact hkC) (by rw [g2]; exact va_assign hcls) rfl rfl hd fun H1 e1 z oq => ?_
  refine w H1 _ (S.put z oq (hw.2.2.2.1 _ _ _ ha (by decide))) (P.upd ha z rfl rfl (off_R σ a _) oq (cellOK.ofArr (by decide) (by decide) ?_))
  rw [e1, arrV_store, hj.cl]
  congr 2
  exact (val_setR σ a j (some v) 25 rfl).symm
theorem EV.aastN (pc' : Nat) (hp : pc + 1 = pc') {a n : Nat} {i : Int32} {j : Nat} (hd : decode (mC M) pc = .ok (.aastore, 1)) (ha : hs σ a = some (25, n)) (hj : IX i n j) (k : EV Γ M d pc' L st (setR σ a j none) Q) : EV Γ M d pc L (.null :: .int i :: .ref a :: st) σ Q := by
  subst hp
  refine EV.write (τ := setR σ a j none) rfl rfl (fun h => h.upd ha (by decide) rfl rfl (fun b hb => (off_R σ a _ b hb).2.1)) (fun p e R s m args below meth c H locs cells slots Z ls C S hw P w => ?_) k
  obtain ⟨hx, hb, -, -, -, -, -, -, hts, hK, -⟩ := C
  refine va_WaastN (C := RX4) (cell := arrV (gE Γ 25) n (val σ 25 a)) hx hb ((P.1 _ _ _ ha).arr (by decide) (by decide)) (hK.arr 5 rfl n _) (fun h => by cases h) (by rw [arrV_size]; exact hj.in') rfl rfl hd fun H1 e1 z oq => ?_
  refine w H1 _ (S.put z oq (hw.2.2.2.1 _ _ _ ha (by decide))) (P.upd ha z rfl rfl (off_R σ a _) oq (cellOK.ofArr (by decide) (by decide) ?_))
  rw [e1, arrV_store, hj.cl]
  congr 2
  exact (val_setR σ a j none 25 rfl).symm
theorem EV.aastJ (pc' : Nat) (hp : pc + 1 = pc') {a n v nv : Nat} {i : Int32} {j : Nat} (hd : decode (mC M) pc = .ok (.aastore, 1)) (ha : hs σ a = some (26, n)) (hj : IX i n j) (hv9 : hs σ v = some (23, nv)) (k : EV Γ M d pc' L st (setR σ a j (some v)) Q) : EV Γ M d pc L (.ref v :: .int i :: .ref a :: st) σ Q := by
  subst hp
  refine EV.write (τ := setR σ a j (some v)) rfl rfl (fun h => h.upd ha (by decide) rfl rfl (fun b hb => (off_R σ a _ b hb).2.1)) (fun p e R s m args below meth c H locs cells slots Z ls C S hw P w => ?_) k
  obtain ⟨hx, hb, -, -, -, -, -, -, hts, hK, -⟩ := C
  obtain ⟨kA, k1, k2⟩ := hK.2.2.1
  obtain ⟨-, kC, hkC, cm, hkind⟩ := hK.arr 3 rfl nv (val σ 23 v)
  have hkC' : s.vm.classes[gE Γ 23]? = some kC := hkC
  refine W.aast (cell := arrV (gE Γ 26) n (val σ 26 a)) (cv := arrV (gE Γ 23) nv (val σ 23 v)) hx hb ((P.1 _ _ _ ha).arr (by decide) (by decide)) (fun q h => by cases h) (fun h => by cases h) k1 k2 rfl hkC' ⟨hj.lo, by rw [arrV_size, hj.cl]; exact hj.2⟩ ((P.1 _ _ _ hv9).arr (by decide) (by decide)) (fun q h => by cases h) hkC (my_asg s.vm (gE Γ 23)) rfl rfl hd fun H1 e1 z oq => ?_
  refine w H1 _ (S.put z oq (hw.2.2.2.1 _ _ _ ha (by decide))) (P.upd ha z rfl rfl (off_R σ a _) oq (cellOK.ofArr (by decide) (by decide) ?_))
  rw [e1, arrV_store, hj.cl]
  congr 2
  exact (val_setR σ a j (some v) 26 rfl).symm
theorem nn_of {i : Int32} {n : Nat} (hi : i.toInt = (n : Int)) : i.toNatClampNeg = n ∧ ¬ i < 0 := by
  refine ⟨by show i.toInt.toNat = n; rw [hi]; rfl, fun h => ?_⟩
  have h2 := Int32.lt_iff_toInt_lt.mp h
  rw [hi] at h2
  have h3 : ((0 : Int32)).toInt = 0 := by decide
  omega
theorem EV.newF (pc' : Nat) (hp : pc + 3 = pc') {i : Int32} {n idx : Nat} (hl : Cond.classLink (mY M).cls idx RX4 ∈ AW) (ho : Cond.arrayOver (.object RX4) ∈ lw_tbl) (hd : decode (mC M) pc = .ok (.anewarray idx, 3)) (hi : i.toInt = (n : Int)) (hb9 : n ≤ 60000000) (kk : EV Γ M d pc' L (.ref (lo Γ + hc σ) :: st) (mk σ (lo Γ + hc σ) 25 n) Q) : EV Γ M d pc L (.int i :: st) σ Q := by
  subst hp
  obtain ⟨hN, hneg⟩ := nn_of hi
  refine EV.make (fun p e R s m args below meth c H locs cells slots Z ls C S hw P hcells hslots w => ?_) kk
  obtain ⟨hx, hb, -, hown, -, -, -, -, hts, hK, -⟩ := C
  subst hN
  refine W.anew (C := RX4) hx hb hown (hts _ hl) (va_AO.use (hK.2.1 _ ho rfl)) rfl hd rfl hneg (Nat.le_trans (Nat.mul_le_mul_right _ hb9) (Nat.le_of_ble_eq_true rfl)) hcells hslots fun cA kA comp f1 f2 f3 f4 => ?_
  have hcA : cA = gE Γ 25 := by
    obtain ⟨-, -, -, -, -, h9⟩ := (hK.1.2 5 _ rfl).2
    exact Option.some.inj (f1.symm.trans h9)
  subst hcA
  generalize hH1 : H.push ({ cls := gE Γ 25, slots := Array.replicate i.toNatClampNeg .null, vm := .none } : Cell) = H1
  have z1 : H1.size = H.size + 1 := by rw [← hH1, Array.size_push]
  have e1 : H1[H.size]? = some (arrV (gE Γ 25) i.toNatClampNeg (fun _ => .null)) := by rw [← hH1, Array.getElem?_push_size, ← arrV_new]
  have o1 : ∀ q : Nat, q < H.size → H1[q]? = H[q]? := fun q hq => by rw [← hH1, Array.getElem?_push, if_neg (Nat.ne_of_lt hq)]
  have h9 := w H1 _ (mk_S S z1 o1) (P.mk o1 z1 (cellOK.ofArr (by decide) (by decide) (by rw [val_mk, ← P.2]; exact e1)))
  rw [← P.2] at h9
  exact h9
theorem EV.newM (pc' : Nat) (hp : pc + 3 = pc') {i : Int32} {n idx : Nat} (hl : Cond.classLink (mY M).cls idx (FieldType.array .long).toString ∈ AW) (ho : Cond.arrayOver (.array .long) ∈ lw_tbl) (hd : decode (mC M) pc = .ok (.anewarray idx, 3)) (hi : i.toInt = (n : Int)) (hb9 : n ≤ 60000000) (kk : EV Γ M d pc' L (.ref (lo Γ + hc σ) :: st) (mk σ (lo Γ + hc σ) 26 n) Q) : EV Γ M d pc L (.int i :: st) σ Q := by
  subst hp
  obtain ⟨hN, hneg⟩ := nn_of hi
  refine EV.make (fun p e R s m args below meth c H locs cells slots Z ls C S hw P hcells hslots w => ?_) kk
  obtain ⟨hx, hb, -, hown, -, -, -, -, hts, hK, -⟩ := C
  subst hN
  refine W.anewA (t := .long) hx hb hown (hts _ hl) (hK.2.1 _ ho rfl) rfl hd rfl hneg (Nat.le_trans (Nat.mul_le_mul_right _ hb9) (Nat.le_of_ble_eq_true rfl)) hcells hslots fun cA kA comp f1 f2 f3 f4 => ?_
  have hcA : cA = gE Γ 26 := by
    have h9 := (hK.1.2 6 _ rfl).2
    exact Option.some.inj (f1.symm.trans h9)
  subst hcA
  generalize hH1 : H.push ({ cls := gE Γ 26, slots := Array.replicate i.toNatClampNeg .null, vm := .none } : Cell) = H1
  have z1 : H1.size = H.size + 1 := by rw [← hH1, Array.size_push]
  have e1 : H1[H.size]? = some (arrV (gE Γ 26) i.toNatClampNeg (fun _ => .null)) := by rw [← hH1, Array.getElem?_push_size, ← arrV_new]
  have o1 : ∀ q : Nat, q < H.size → H1[q]? = H[q]? := fun q hq => by rw [← hH1, Array.getElem?_push, if_neg (Nat.ne_of_lt hq)]
  have h9 := w H1 _ (mk_S S z1 o1) (P.mk o1 z1 (cellOK.ofArr (by decide) (by decide) (by rw [val_mk, ← P.2]; exact e1)))
  rw [← P.2] at h9
  exact h9
end REFR
/-! what a call answers -/
def RI (Γ : Gm) (d : Nat) (M : MI) (vs : List Value) (σ : AH) (P : Int32 → AH → Prop) : Prop := RUN Γ d M vs σ (fun o σ' => ∃ r : Int32, o = .inl (some (.int r)) ∧ P r σ')
def RJ (Γ : Gm) (d : Nat) (M : MI) (vs : List Value) (σ : AH) (P : Int64 → AH → Prop) : Prop := RUN Γ d M vs σ (fun o σ' => ∃ r : Int64, o = .inl (some (.long r)) ∧ P r σ')
def RD (Γ : Gm) (d : Nat) (M : MI) (vs : List Value) (σ : AH) (P : UInt64 → AH → Prop) : Prop := RUN Γ d M vs σ (fun o σ' => ∃ r : UInt64, o = .inl (some (.double r)) ∧ P r σ')
def RQ (Γ : Gm) (d : Nat) (M : MI) (vs : List Value) (σ : AH) (P : Option Nat → AH → Prop) : Prop := RUN Γ d M vs σ (fun o σ' => ∃ r : Option Nat, o = .inl (some (va_rf r)) ∧ P r σ')
def RV (Γ : Gm) (d : Nat) (M : MI) (vs : List Value) (σ : AH) (P : AH → Prop) : Prop := RUN Γ d M vs σ (fun o σ' => o = .inl none ∧ P σ')
def RX (Γ : Gm) (d : Nat) (M : MI) (vs : List Value) (σ : AH) (E : String) (P : AH → Prop) : Prop := RUN Γ d M vs σ (fun o σ' => o = .inr E ∧ P σ')
/-- at a call: the callee, called from a method of depth d, ends, and behind its end K, or where it throws KX -/
def CALL (Γ : Gm) (d : Nat) (M : MI) (vs : List Value) (σ : AH) (K : Option Value → AH → Prop) (KX : String → AH → Prop) : Prop := WF Γ σ → ∃ d2, d2 < d ∧ ∃ o σ1, Runs Γ d2 M vs σ o σ1 ∧ WF Γ σ1 ∧ (match o with | .inl v => K v σ1 | .inr E => KX E σ1)
def CI (Γ : Gm) (d : Nat) (M : MI) (vs : List Value) (σ : AH) (K : Int32 → AH → Prop) (KX : String → AH → Prop) : Prop := CALL Γ d M vs σ (fun v σ1 => ∃ r : Int32, v = some (.int r) ∧ K r σ1) KX
def CJ (Γ : Gm) (d : Nat) (M : MI) (vs : List Value) (σ : AH) (K : Int64 → AH → Prop) (KX : String → AH → Prop) : Prop := CALL Γ d M vs σ (fun v σ1 => ∃ r : Int64, v = some (.long r) ∧ K r σ1) KX
def CD (Γ : Gm) (d : Nat) (M : MI) (vs : List Value) (σ : AH) (K : UInt64 → AH → Prop) (KX : String → AH → Prop) : Prop := CALL Γ d M vs σ (fun v σ1 => ∃ r : UInt64, v = some (.double r) ∧ K r σ1) KX
def CQ (Γ : Gm) (d : Nat) (M : MI) (vs : List Value) (σ : AH) (K : Option Nat → AH → Prop) (KX : String → AH → Prop) : Prop := CALL Γ d M vs σ (fun v σ1 => ∃ r : Option Nat, v = some (va_rf r) ∧ K r σ1) KX
def CR (Γ : Gm) (d : Nat) (M : MI) (vs : List Value) (σ : AH) (K : Nat → AH → Prop) (KX : String → AH → Prop) : Prop := CALL Γ d M vs σ (fun v σ1 => ∃ r : Nat, v = some (.ref r) ∧ K r σ1) KX
def CV (Γ : Gm) (d : Nat) (M : MI) (vs : List Value) (σ : AH) (K : AH → Prop) (KX : String → AH → Prop) : Prop := CALL Γ d M vs σ (fun v σ1 => v = none ∧ K σ1) KX
section CALLC
variable {Γ : Gm} {M : MI} {d d2 : Nat} {vs : List Value} {σ : AH} {KX : String → AH → Prop}
theorem CI.of {P K : Int32 → AH → Prop} (h : RI Γ d2 M vs σ P) (hd : d2 < d) (k : ∀ r σ1, WF Γ σ1 → P r σ1 → K r σ1) : CI Γ d M vs σ K KX := by
  intro hw
  obtain ⟨o, σ1, r1, w1, r, rfl, q⟩ := h hw
  exact ⟨d2, hd, _, σ1, r1, w1, r, rfl, k r σ1 w1 q⟩
theorem CJ.of {P K : Int64 → AH → Prop} (h : RJ Γ d2 M vs σ P) (hd : d2 < d) (k : ∀ r σ1, WF Γ σ1 → P r σ1 → K r σ1) : CJ Γ d M vs σ K KX := by
  intro hw
  obtain ⟨o, σ1, r1, w1, r, rfl, q⟩ := h hw
  exact ⟨d2, hd, _, σ1, r1, w1, r, rfl, k r σ1 w1 q⟩
theorem CD.of {P K : UInt64 → AH → Prop} (h : RD Γ d2 M vs σ P) (hd : d2 < d) (k : ∀ r σ1, WF Γ σ1 → P r σ1 → K r σ1) : CD Γ d M vs σ K KX := by
  intro hw
  obtain ⟨o, σ1, r1, w1, r, rfl, q⟩ := h hw
  exact ⟨d2, hd, _, σ1, r1, w1, r, rfl, k r σ1 w1 q⟩
theorem CQ.of {P K : Option Nat → AH → Prop} (h : RQ Γ d2 M vs σ P) (hd : d2 < d) (k : ∀ r σ1, WF Γ σ1 → P r σ1 → K r σ1) : CQ Γ d M vs σ K KX := by
  intro hw
  obtain ⟨o, σ1, r1, w1, r, rfl, q⟩ := h hw
  exact ⟨d2, hd, _, σ1, r1, w1, r, rfl, k r σ1 w1 q⟩
theorem CR.of {P : Option Nat → AH → Prop} {K : Nat → AH → Prop} (h : RQ Γ d2 M vs σ P) (hd : d2 < d) (k : ∀ r σ1, WF Γ σ1 → P r σ1 → ∃ t, r = some t ∧ K t σ1) : CR Γ d M vs σ K KX := by
  intro hw
  obtain ⟨o, σ1, r1, w1, r, rfl, q⟩ := h hw
  obtain ⟨t, rfl, q2⟩ := k r σ1 w1 q
  exact ⟨d2, hd, _, σ1, r1, w1, t, rfl, q2⟩
theorem CV.of {P K : AH → Prop} (h : RV Γ d2 M vs σ P) (hd : d2 < d) (k : ∀ σ1, WF Γ σ1 → P σ1 → K σ1) : CV Γ d M vs σ K KX := by
  intro hw
  obtain ⟨o, σ1, r1, w1, rfl, q⟩ := h hw
  exact ⟨d2, hd, _, σ1, r1, w1, rfl, k σ1 w1 q⟩
theorem CALL.ofX {K : Option Value → AH → Prop} {E : String} {P : AH → Prop} (h : RX Γ d2 M vs σ E P) (hd : d2 < d) (k : ∀ σ1, WF Γ σ1 → P σ1 → KX E σ1) : CALL Γ d M vs σ K KX := by
  intro hw
  obtain ⟨o, σ1, r1, w1, rfl, q⟩ := h hw
  exact ⟨d2, hd, _, σ1, r1, w1, k σ1 w1 q⟩
end CALLC
