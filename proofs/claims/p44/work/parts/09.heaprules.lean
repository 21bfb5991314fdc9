/-! HEAP RULES. -/
/-- the index i is j, and in range -/
def IX (i : Int32) (n j : Nat) : Prop := i.toInt = (j : Int) ∧ j < n
theorem IX.cl {i : Int32} {n j : Nat} (h : IX i n j) : i.toNatClampNeg = j := by
  show i.toInt.toNat = j
  rw [h.1]; rfl
theorem IX.in' {i : Int32} {n j : Nat} (h : IX i n j) : ¬ (i < 0 ∨ n ≤ i.toNatClampNeg) := by
  have h1 : vp_in i n := vp_in_iff.mpr ⟨by rw [h.1]; omega, by rw [h.1]; have := h.2; omega⟩
  exact h1
theorem cellOK.arr {Γ : Gm} {U : State} {σ : AH} {H : Heap} {a k n : Nat} (h : cellOK Γ U σ H a k n) (h1 : ¬ k < 20) (h2 : k < 27) : H[a]? = some (arrV (gE Γ k) n (val σ k a)) := by
  unfold cellOK at h
  rw [if_neg h1, if_pos h2] at h
  exact h
theorem cellOK.obj {Γ : Gm} {U : State} {σ : AH} {H : Heap} {a k n : Nat} (h : cellOK Γ U σ H a k n) (h1 : k < 20) : n = (tkO k).length ∧ t_OB a ((gD Γ).1 k) n ((gD Γ).2 k) H (val σ k a) := by
  unfold cellOK at h
  rw [if_pos h1] at h
  exact h
theorem cellOK.ofArr {Γ : Gm} {U : State} {σ : AH} {H : Heap} {a k n : Nat} (h1 : ¬ k < 20) (h2 : k < 27) (h : H[a]? = some (arrV (gE Γ k) n (val σ k a))) : cellOK Γ U σ H a k n := by
  unfold cellOK
  rw [if_neg h1, if_pos h2]
  exact h
theorem cellOK.ofObj {Γ : Gm} {U : State} {σ : AH} {H : Heap} {a k n : Nat} (h1 : k < 20) (h : n = (tkO k).length ∧ t_OB a ((gD Γ).1 k) n ((gD Γ).2 k) H (val σ k a)) : cellOK Γ U σ H a k n := by
  unfold cellOK
  rw [if_pos h1]
  exact h
theorem KN.arr {Γ : Gm} {U : State} (h : KN Γ U) (t : Nat) {k : Nat} {ty : FieldType} (ht : (tysL Γ)[t]? = some (gE Γ k, ty)) (n : Nat) (z : Nat → Value) : U.isArrayOf (arrV (gE Γ k) n z) ty := (h.1.2 t _ ht).1 n z
theorem val_setI (σ : AH) (a i : Nat) (x : Int32) (k : Nat) (h : tk k i = 0) : val (setI σ a i x) k a = updV (val σ k a) i (.int x) := by
  funext j
  by_cases hj : j = i
  · subst hj
    simp [val, updV, h, setI, gi_rowI, up]
  · simp [val, updV, hj, setI, gi_rowI, gj_rowI, gr_rowI, gd_rowI, up]
theorem val_setJ (σ : AH) (a i : Nat) (x : Int64) (k : Nat) (h : tk k i = 1) : val (setJ σ a i x) k a = updV (val σ k a) i (.long x) := by
  funext j
  by_cases hj : j = i
  · subst hj
    simp [val, updV, h, setJ, gj_rowJ, up]
  · simp [val, updV, hj, setJ, gi_rowJ, gj_rowJ, gr_rowJ, gd_rowJ, up]
theorem val_setR (σ : AH) (a i : Nat) (x : Option Nat) (k : Nat) (h : tk k i = 2) : val (setR σ a i x) k a = updV (val σ k a) i (va_rf x) := by
  funext j
  by_cases hj : j = i
  · subst hj
    simp [val, updV, h, setR, gr_rowR, up]
  · simp [val, updV, hj, setR, gi_rowR, gj_rowR, gr_rowR, gd_rowR, up]
theorem val_setD (σ : AH) (a i : Nat) (x : UInt64) (k : Nat) (h : tk k i = 3) : val (setD σ a i x) k a = updV (val σ k a) i (.double x) := by
  funext j
  by_cases hj : j = i
  · subst hj
    simp [val, updV, h, setD, gd_rowD, up]
  · simp [val, updV, hj, setD, gi_rowD, gj_rowD, gr_rowD, gd_rowD, up]
theorem off_I (σ : AH) (a : Nat) (f : Nat → Int32) : ∀ b, b ≠ a → gi (rowI σ a f) b = gi σ b ∧ gj (rowI σ a f) b = gj σ b ∧ gr (rowI σ a f) b = gr σ b ∧ gd (rowI σ a f) b = gd σ b := fun b hb => ⟨up_ne _ _ hb, rfl, rfl, rfl⟩
theorem off_J (σ : AH) (a : Nat) (f : Nat → Int64) : ∀ b, b ≠ a → gi (rowJ σ a f) b = gi σ b ∧ gj (rowJ σ a f) b = gj σ b ∧ gr (rowJ σ a f) b = gr σ b ∧ gd (rowJ σ a f) b = gd σ b := fun b hb => ⟨rfl, up_ne _ _ hb, rfl, rfl⟩
theorem off_R (σ : AH) (a : Nat) (f : Nat → Option Nat) : ∀ b, b ≠ a → gi (rowR σ a f) b = gi σ b ∧ gj (rowR σ a f) b = gj σ b ∧ gr (rowR σ a f) b = gr σ b ∧ gd (rowR σ a f) b = gd σ b := fun b hb => ⟨rfl, rfl, up_ne _ _ hb, rfl⟩
theorem off_D (σ : AH) (a : Nat) (f : Nat → UInt64) : ∀ b, b ≠ a → gi (rowD σ a f) b = gi σ b ∧ gj (rowD σ a f) b = gj σ b ∧ gr (rowD σ a f) b = gr σ b ∧ gd (rowD σ a f) b = gd σ b := fun b hb => ⟨rfl, rfl, rfl, up_ne _ _ hb⟩
section HEAPR
variable {Γ : Gm} {M : MI} {d pc : Nat} {L : List (Option Value)} {st : List Value} {σ : AH} {Q : Oc → AH → Prop}
/-- a step that reads the heap -/
theorem EV.read {pc' : Nat} {st' : List Value}
    (f : ∀ (p : Program) (e : Env) (R : Room) (s : State) (m : MethodId) (args : Array Value) (below : List Frame) (meth : Method) (c : Code) (H : Heap) (locs : List Loc) (cells slots : Nat) (Z : State → Prop) (ls : Array Slot),
      CX Γ M p s m args meth c → va_S (ownA Γ) s.heap H locs → HP Γ σ s H → W p (gL Γ) e R s m args below meth c H locs cells slots Z (F0 m pc' ls st') → W p (gL Γ) e R s m args below meth c H locs cells slots Z (F0 m pc ls st))
    (k : EV Γ M d pc' L st' σ Q) : EV Γ M d pc L st σ Q := by
  intro hw
  obtain ⟨o, σ', ⟨h1, h2, h⟩, q⟩ := k hw
  exact ⟨o, σ', ⟨h1, h2, fun p e s m args below meth c H locs ls k0 n0 C S P l a b => f p e _ s m args below meth c H locs _ _ _ ls C S P (h p e s m args below meth c H locs ls k0 n0 C S P l a b)⟩, q⟩
/-- a step that writes it -/
theorem EV.write {pc' : Nat} {st' : List Value} {τ : AH} (ec : hc τ = hc σ) (ev : hv τ = hv σ) (hW : WF Γ σ → WF Γ τ)
    (f : ∀ (p : Program) (e : Env) (R : Room) (s : State) (m : MethodId) (args : Array Value) (below : List Frame) (meth : Method) (c : Code) (H : Heap) (locs : List Loc) (cells slots : Nat) (Z : State → Prop) (ls : Array Slot),
      CX Γ M p s m args meth c → va_S (ownA Γ) s.heap H locs → WF Γ σ → HP Γ σ s H → (∀ H' locs', va_S (ownA Γ) s.heap H' locs' → HP Γ τ s H' → W p (gL Γ) e R s m args below meth c H' locs' cells slots Z (F0 m pc' ls st')) → W p (gL Γ) e R s m args below meth c H locs cells slots Z (F0 m pc ls st))
    (k : EV Γ M d pc' L st' τ Q) : EV Γ M d pc L st σ Q := by
  intro hw
  obtain ⟨o, σ', ⟨h1, h2, h⟩, q⟩ := k (hW hw)
  refine ⟨o, σ', ⟨ec ▸ h1, ev ▸ h2, fun p e s m args below meth c H locs ls k0 n0 C S P l a b => f p e _ s m args below meth c H locs _ _ _ ls C S hw P (fun H' locs' S' P' => ?_)⟩, q⟩
  have h9 := h p e s m args below meth c H' locs' ls k0 n0 C S' P' l (by rw [ec]; exact a) (by rw [ev]; exact b)
  rw [ec, ev] at h9
  exact h9
theorem EV.iald (pc' : Nat) (hp : pc + 1 = pc') {a n : Nat} {i : Int32} {j : Nat} (hd : decode (mC M) pc = .ok (.iaload, 1)) (ha : hs σ a = some (22, n)) (hj : IX i n j) (k : EV Γ M d pc' L (.int (gi σ a j) :: st) σ Q) : EV Γ M d pc L (.int i :: .ref a :: st) σ Q := by
  subst hp
  refine EV.read (fun p e R s m args below meth c H locs cells slots Z ls C S P w => ?_) k
  refine W.iald (cell := arrV (gE Γ 22) n (val σ 22 a)) C.1 C.2.1 ((P.1 _ _ _ ha).arr (by decide) (by decide)) (C.2.2.2.2.2.2.2.2.2.1.arr 2 rfl n _) (fun q => by cases q) (by rw [arrV_size]; exact hj.in') (v := .int (gi σ a j)) (by rw [hj.cl, arrV_read _ _ hj.2]; rfl) rfl rfl hd w
theorem EV.bald (pc' : Nat) (hp : pc + 1 = pc') {a n : Nat} {i : Int32} {j : Nat} (hd : decode (mC M) pc = .ok (.baload, 1)) (ha : hs σ a = some (20, n)) (hj : IX i n j) (k : EV Γ M d pc' L (.int (gi σ a j) :: st) σ Q) : EV Γ M d pc L (.int i :: .ref a :: st) σ Q := by
  subst hp
  refine EV.read (fun p e R s m args below meth c H locs cells slots Z ls C S P w => ?_) k
  refine W.bald (cell := arrV (gE Γ 20) n (val σ 20 a)) C.1 C.2.1 ((P.1 _ _ _ ha).arr (by decide) (by decide)) (C.2.2.2.2.2.2.2.2.2.1.arr 0 rfl n _) (fun q => by cases q) (by rw [arrV_size]; exact hj.in') (v := .int (gi σ a j)) (by rw [hj.cl, arrV_read _ _ hj.2]; rfl) rfl rfl hd w
theorem EV.lald (pc' : Nat) (hp : pc + 1 = pc') {a n : Nat} {i : Int32} {j : Nat} (hd : decode (mC M) pc = .ok (.laload, 1)) (ha : hs σ a = some (23, n)) (hj : IX i n j) (k : EV Γ M d pc' L (.long (gj σ a j) :: st) σ Q) : EV Γ M d pc L (.int i :: .ref a :: st) σ Q := by
  subst hp
  refine EV.read (fun p e R s m args below meth c H locs cells slots Z ls C S P w => ?_) k
  refine W.lald (cell := arrV (gE Γ 23) n (val σ 23 a)) C.1 C.2.1 ((P.1 _ _ _ ha).arr (by decide) (by decide)) (C.2.2.2.2.2.2.2.2.2.1.arr 3 rfl n _) (fun q => by cases q) (by rw [arrV_size]; exact hj.in') (v := .long (gj σ a j)) (by rw [hj.cl, arrV_read _ _ hj.2]; rfl) rfl rfl hd w
theorem EV.aaldF (pc' : Nat) (hp : pc + 1 = pc') {a n : Nat} {i : Int32} {j : Nat} (hd : decode (mC M) pc = .ok (.aaload, 1)) (ha : hs σ a = some (25, n)) (hj : IX i n j) (k : EV Γ M d pc' L (va_rf (gr σ a j) :: st) σ Q) : EV Γ M d pc L (.int i :: .ref a :: st) σ Q := by
  subst hp
  refine EV.read (fun p e R s m args below meth c H locs cells slots Z ls C S P w => ?_) k
  refine W.aald (cell := arrV (gE Γ 25) n (val σ 25 a)) C.1 C.2.1 ((P.1 _ _ _ ha).arr (by decide) (by decide)) (C.2.2.2.2.2.2.2.2.2.1.arr 5 rfl n _) rfl (fun q => by cases q) (by rw [arrV_size]; exact hj.in') (v := va_rf (gr σ a j)) (by rw [hj.cl, arrV_read _ _ hj.2]; rfl) rfl rfl hd w
theorem EV.aaldJ (pc' : Nat) (hp : pc + 1 = pc') {a n : Nat} {i : Int32} {j : Nat} (hd : decode (mC M) pc = .ok (.aaload, 1)) (ha : hs σ a = some (26, n)) (hj : IX i n j) (k : EV Γ M d pc' L (va_rf (gr σ a j) :: st) σ Q) : EV Γ M d pc L (.int i :: .ref a :: st) σ Q := by
  subst hp
  refine EV.read (fun p e R s m args below meth c H locs cells slots Z ls C S P w => ?_) k
  refine W.aald (cell := arrV (gE Γ 26) n (val σ 26 a)) C.1 C.2.1 ((P.1 _ _ _ ha).arr (by decide) (by decide)) (C.2.2.2.2.2.2.2.2.2.1.arr 6 rfl n _) rfl (fun q => by cases q) (by rw [arrV_size]; exact hj.in') (v := va_rf (gr σ a j)) (by rw [hj.cl, arrV_read _ _ hj.2]; rfl) rfl rfl hd w
theorem EV.alenB (pc' : Nat) (hp : pc + 1 = pc') {a n : Nat} (hd : decode (mC M) pc = .ok (.arraylength, 1)) (ha : hs σ a = some (20, n)) (k : EV Γ M d pc' L (.int (nI n) :: st) σ Q) : EV Γ M d pc L (.ref a :: st) σ Q := by
  subst hp
  refine EV.read (fun p e R s m args below meth c H locs cells slots Z ls C S P w => ?_) k
  refine W.alen (cell := arrV (gE Γ 20) n (val σ 20 a)) C.1 C.2.1 ((P.1 _ _ _ ha).arr (by decide) (by decide)) (C.2.2.2.2.2.2.2.2.2.1.arr 0 rfl n _) (by rw [arrV_size]; rfl) rfl rfl hd w
theorem EV.alenI (pc' : Nat) (hp : pc + 1 = pc') {a n : Nat} (hd : decode (mC M) pc = .ok (.arraylength, 1)) (ha : hs σ a = some (22, n)) (k : EV Γ M d pc' L (.int (nI n) :: st) σ Q) : EV Γ M d pc L (.ref a :: st) σ Q := by
  subst hp
  refine EV.read (fun p e R s m args below meth c H locs cells slots Z ls C S P w => ?_) k
  refine W.alen (cell := arrV (gE Γ 22) n (val σ 22 a)) C.1 C.2.1 ((P.1 _ _ _ ha).arr (by decide) (by decide)) (C.2.2.2.2.2.2.2.2.2.1.arr 2 rfl n _) (by rw [arrV_size]; rfl) rfl rfl hd w
theorem EV.alenJ (pc' : Nat) (hp : pc + 1 = pc') {a n : Nat} (hd : decode (mC M) pc = .ok (.arraylength, 1)) (ha : hs σ a = some (23, n)) (k : EV Γ M d pc' L (.int (nI n) :: st) σ Q) : EV Γ M d pc L (.ref a :: st) σ Q := by
  subst hp
  refine EV.read (fun p e R s m args below meth c H locs cells slots Z ls C S P w => ?_) k
  refine W.alen (cell := arrV (gE Γ 23) n (val σ 23 a)) C.1 C.2.1 ((P.1 _ _ _ ha).arr (by decide) (by decide)) (C.2.2.2.2.2.2.2.2.2.1.arr 3 rfl n _) (by rw [arrV_size]; rfl) rfl rfl hd w
theorem EV.alenF (pc' : Nat) (hp : pc + 1 = pc') {a n : Nat} (hd : decode (mC M) pc = .ok (.arraylength, 1)) (ha : hs σ a = some (25, n)) (k : EV Γ M d pc' L (.int (nI n) :: st) σ Q) : EV Γ M d pc L (.ref a :: st) σ Q := by
  subst hp
  refine EV.read (fun p e R s m args below meth c H locs cells slots Z ls C S P w => ?_) k
  refine W.alen (cell := arrV (gE Γ 25) n (val σ 25 a)) C.1 C.2.1 ((P.1 _ _ _ ha).arr (by decide) (by decide)) (C.2.2.2.2.2.2.2.2.2.1.arr 5 rfl n _) (by rw [arrV_size]; rfl) rfl rfl hd w
theorem cellOK.ro {Γ : Gm} {U : State} {σ : AH} {H : Heap} {a k n : Nat} (h : cellOK Γ U σ H a k n) (h2 : ¬ k < 27) : ∃ cell : Cell, H[a]? = some cell ∧ U.isArrayOf cell (if k = 27 then .long else .int) ∧ cell.vm ≠ .unknown ∧ n ≤ cell.slots.size ∧ (k = 28 → cell.slots.size = n) ∧ ∀ j : Nat, j < n → cell.slots[j]? = some (val σ k a j) := by
  unfold cellOK at h
  rw [if_neg (by omega), if_neg h2] at h
  exact h
theorem EV.laldW (pc' : Nat) (hp : pc + 1 = pc') {a n : Nat} {i : Int32} {j : Nat} (hd : decode (mC M) pc = .ok (.laload, 1)) (ha : hs σ a = some (27, n)) (hj : IX i n j) (k : EV Γ M d pc' L (.long (gj σ a j) :: st) σ Q) : EV Γ M d pc L (.int i :: .ref a :: st) σ Q := by
  subst hp
  refine EV.read (fun p e R s m args below meth c H locs cells slots Z ls C S P w => ?_) k
  obtain ⟨cell, h1, h2, h3, h4, -, h5⟩ := (P.1 _ _ _ ha).ro (by decide)
  have hj2 : IX i cell.slots.size j := ⟨hj.1, Nat.lt_of_lt_of_le hj.2 h4⟩
  exact W.lald C.1 C.2.1 h1 h2 h3 hj2.in' (v := .long (gj σ a j)) (by rw [hj.cl, h5 j hj.2]; rfl) rfl rfl hd w
theorem EV.ialdS (pc' : Nat) (hp : pc + 1 = pc') {a n : Nat} {i : Int32} {j : Nat} (hd : decode (mC M) pc = .ok (.iaload, 1)) (ha : hs σ a = some (28, n)) (hj : IX i n j) (k : EV Γ M d pc' L (.int (gi σ a j) :: st) σ Q) : EV Γ M d pc L (.int i :: .ref a :: st) σ Q := by
  subst hp
  refine EV.read (fun p e R s m args below meth c H locs cells slots Z ls C S P w => ?_) k
  obtain ⟨cell, h1, h2, h3, h4, -, h5⟩ := (P.1 _ _ _ ha).ro (by decide)
  have hj2 : IX i cell.slots.size j := ⟨hj.1, Nat.lt_of_lt_of_le hj.2 h4⟩
  exact W.iald C.1 C.2.1 h1 h2 h3 hj2.in' (v := .int (gi σ a j)) (by rw [hj.cl, h5 j hj.2]; rfl) rfl rfl hd w
theorem EV.alenS (pc' : Nat) (hp : pc + 1 = pc') {a n : Nat} (hd : decode (mC M) pc = .ok (.arraylength, 1)) (ha : hs σ a = some (28, n)) (k : EV Γ M d pc' L (.int (nI n) :: st) σ Q) : EV Γ M d pc L (.ref a :: st) σ Q := by
  subst hp
  refine EV.read (fun p e R s m args below meth c H locs cells slots Z ls C S P w => ?_) k
  obtain ⟨cell, h1, h2, h3, h4, h5, -⟩ := (P.1 _ _ _ ha).ro (by decide)
  exact W.alen C.1 C.2.1 h1 h2 (by rw [h5 rfl]; rfl) rfl rfl hd w
theorem EV.iast (pc' : Nat) (hp : pc + 1 = pc') {a n : Nat} {i : Int32} {j : Nat} {x : Int32} (hd : decode (mC M) pc = .ok (.iastore, 1)) (ha : hs σ a = some (22, n)) (hj : IX i n j) (k : EV Γ M d pc' L st (setI σ a j x) Q) : EV Γ M d pc L (.int x :: .int i :: .ref a :: st) σ Q := by
  subst hp
  refine EV.write (τ := setI σ a j x) rfl rfl (fun h => h.upd ha (by decide) rfl rfl (fun b hb => (off_I σ a _ b hb).2.1)) (fun p e R s m args below meth c H locs cells slots Z ls C S hw P w => ?_) k
  refine W.iast (cell := arrV (gE Γ 22) n (val σ 22 a)) C.1 C.2.1 ((P.1 _ _ _ ha).arr (by decide) (by decide)) (C.2.2.2.2.2.2.2.2.2.1.arr 2 rfl n _) (fun q => by cases q) (by rw [arrV_size]; exact hj.in') rfl rfl hd (fun H1 e1 z oq => ?_)
  refine w H1 _ (S.put z oq (hw.2.2.2.1 _ _ _ ha (by decide))) (P.upd ha z rfl rfl (off_I σ a _) oq (cellOK.ofArr (by decide) (by decide) ?_))
  rw [e1, arrV_store, hj.cl]
  congr 2
  exact (val_setI σ a j _ 22 rfl).symm
theorem EV.bast (pc' : Nat) (hp : pc + 1 = pc') {a n : Nat} {i : Int32} {j : Nat} {x : Int32} (hd : decode (mC M) pc = .ok (.bastore, 1)) (ha : hs σ a = some (20, n)) (hj : IX i n j) (k : EV Γ M d pc' L st (setI σ a j (vp_nar .byte x)) Q) : EV Γ M d pc L (.int x :: .int i :: .ref a :: st) σ Q := by
  subst hp
  refine EV.write (τ := setI σ a j (vp_nar .byte x)) rfl rfl (fun h => h.upd ha (by decide) rfl rfl (fun b hb => (off_I σ a _ b hb).2.1)) (fun p e R s m args below meth c H locs cells slots Z ls C S hw P w => ?_) k
  refine W.bast (cell := arrV (gE Γ 20) n (val σ 20 a)) C.1 C.2.1 ((P.1 _ _ _ ha).arr (by decide) (by decide)) (C.2.2.2.2.2.2.2.2.2.1.arr 0 rfl n _) (fun q => by cases q) (by rw [arrV_size]; exact hj.in') rfl rfl hd (fun H1 e1 z oq => ?_)
  refine w H1 _ (S.put z oq (hw.2.2.2.1 _ _ _ ha (by decide))) (P.upd ha z rfl rfl (off_I σ a _) oq (cellOK.ofArr (by decide) (by decide) ?_))
  rw [e1, arrV_store, hj.cl]
  congr 2
  exact (val_setI σ a j _ 20 rfl).symm
theorem EV.last (pc' : Nat) (hp : pc + 1 = pc') {a n : Nat} {i : Int32} {j : Nat} {x : Int64} (hd : decode (mC M) pc = .ok (.lastore, 1)) (ha : hs σ a = some (23, n)) (hj : IX i n j) (k : EV Γ M d pc' L st (setJ σ a j x) Q) : EV Γ M d pc L (.long x :: .int i :: .ref a :: st) σ Q := by
  subst hp
  refine EV.write (τ := setJ σ a j x) rfl rfl (fun h => h.upd ha (by decide) rfl rfl (fun b hb => (off_J σ a _ b hb).2.1)) (fun p e R s m args below meth c H locs cells slots Z ls C S hw P w => ?_) k
  refine W.last (cell := arrV (gE Γ 23) n (val σ 23 a)) C.1 C.2.1 ((P.1 _ _ _ ha).arr (by decide) (by decide)) (C.2.2.2.2.2.2.2.2.2.1.arr 3 rfl n _) (fun q => by cases q) (by rw [arrV_size]; exact hj.in') rfl rfl hd (fun H1 e1 z oq => ?_)
  refine w H1 _ (S.put z oq (hw.2.2.2.1 _ _ _ ha (by decide))) (P.upd ha z rfl rfl (off_J σ a _) oq (cellOK.ofArr (by decide) (by decide) ?_))
  rw [e1, arrV_store, hj.cl]
  congr 2
  exact (val_setJ σ a j _ 23 rfl).symm
end HEAPR
