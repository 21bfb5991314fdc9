/-! FIELDS, NEW CELLS, STATICS. -/
/-- class number ci of the list: its name, its fields -/
def CLS (ci : Nat) (C : String) (T : u_T) (N : Nat) (ty : Nat → FieldType) : Prop :=
  clsL[ci]? = some (C, T, N) ∧ (∀ w ∈ u_ws C T N, w ∈ AW) ∧ (∀ k, k < N → parseFieldDescriptor (T k).2.2.1 = some (ty k)) ∧ (∀ a, a < N → ∀ b, b < N → a ≠ b → (T a).2.1 ≠ (T b).2.1) ∧ N = (tkO ci).length ∧ ci < 20 ∧ (∀ k, k < N → (T k).1 = C) ∧ Cond.instantiable C N ∈ AW ∧ Cond.initialized C ∈ AW ∧ ∀ k, k < N → (tk ci k = 0 ∧ ty k = .int) ∨ (tk ci k = 2 ∧ (ty k).isReference = true)
/-- entry idx of own's pool is field k of class ci -/
def FL (own : String) (idx ci k : Nat) : Prop := ∃ C T N ty, CLS ci C T N ty ∧ k < N ∧ Cond.fieldLink own idx C (T k).2.1 (T k).2.2.1 ∈ AW
/-- .. a nest mate's -/
def FLN (own : String) (idx ci k : Nat) : Prop := ∃ C T N ty host, CLS ci C T N ty ∧ k < N ∧ Cond.fieldLinkNest own idx C (T k).2.1 (T k).2.2.1 host ∈ lw_tbl
/-- .. and not final -/
def FLW (own : String) (idx ci k : Nat) : Prop := ∃ C T N ty, CLS ci C T N ty ∧ k < N ∧ Cond.fieldLink own idx C (T k).2.1 (T k).2.2.1 ∈ AW ∧ (T k).2.2.2 = false
/-- .. and final, and own's -/
def FLF (own : String) (idx ci k : Nat) : Prop := ∃ C T N ty, CLS ci C T N ty ∧ k < N ∧ Cond.fieldLink own idx C (T k).2.1 (T k).2.2.1 ∈ AW ∧ (T k).2.2.2 = true ∧ C = own
/-- entry idx of own's pool is class ci, to be made -/
def NL (own : String) (idx ci : Nat) : Prop := ∃ C T N ty, CLS ci C T N ty ∧ Cond.classLink own idx C ∈ AW
theorem tk_val {σ : AH} {k a i : Nat} : val σ k a i = match tk k i with | 0 => .int (gi σ a i) | 1 => .long (gj σ a i) | 2 => va_rf (gr σ a i) | _ => .double (gd σ a i) := rfl
theorem val_0 {σ : AH} {k a i : Nat} (h : tk k i = 0) : val σ k a i = .int (gi σ a i) := by simp only [val, h]
theorem val_2 {σ : AH} {k a i : Nat} (h : tk k i = 2) : val σ k a i = va_rf (gr σ a i) := by simp only [val, h]
section FIELDR
variable {Γ : Gm} {M : MI} {d pc : Nat} {L : List (Option Value)} {st : List Value} {σ : AH} {Q : Oc → AH → Prop}
theorem EV.getV (pc' : Nat) (hp : pc + 3 = pc') {a n ci k idx : Nat} (hf : FL (mY M).cls idx ci k) (hd : decode (mC M) pc = .ok (.getfield idx, 3)) (ha : hs σ a = some (ci, n)) (kk : EV Γ M d pc' L (val σ ci a k :: st) σ Q) : EV Γ M d pc L (.ref a :: st) σ Q := by
  subst hp
  obtain ⟨C9, T, N, ty, ⟨c1, c2, c3, c4, c5, c6, c7, -⟩, hk, hl⟩ := hf
  refine EV.read (fun p e R s m args below meth c H locs cells slots Z ls C S P w => ?_) kk
  obtain ⟨hx, hb, -, hown, -, -, -, -, hts, hK, -⟩ := C
  obtain ⟨e1, cell, q1, q2, q3, q4⟩ := (P.1 _ _ _ ha).obj c6
  obtain ⟨hS, hfc, kC, hkC, hkind⟩ := hK.1.1 ci _ c1
  obtain ⟨cf, kf, fi, f, hi, hsl⟩ := hS k hk
  have hi' : s.fieldFound? C9 (T k).2.1 (T k).2.2.1 = some (cf, kf, fi, f) := by rw [← c7 k hk]; exact hi
  refine W.getf hx hb hown (hts _ hl) hi' (u_facts hfc hkC (u_lays hts c2 hk) hi).1 q1 (by rw [q3]; exact fun h => by cases h) (v := val σ ci a k) ?_ rfl rfl hd w
  rw [hsl, q4 k (by rw [e1, ← c5]; exact hk)]
theorem EV.getVN (pc' : Nat) (hp : pc + 3 = pc') {a n ci k idx : Nat} (hf : FLN (mY M).cls idx ci k) (hd : decode (mC M) pc = .ok (.getfield idx, 3)) (ha : hs σ a = some (ci, n)) (kk : EV Γ M d pc' L (val σ ci a k :: st) σ Q) : EV Γ M d pc L (.ref a :: st) σ Q := by
  subst hp
  obtain ⟨C9, T, N, ty, host, ⟨c1, c2, c3, c4, c5, c6, c7, -⟩, hk, hl⟩ := hf
  refine EV.read (fun p e R s m args below meth c H locs cells slots Z ls C S P w => ?_) kk
  obtain ⟨hx, hb, -, hown, -, -, -, -, hts, hK, -⟩ := C
  obtain ⟨e1, hO⟩ := (P.1 _ _ _ ha).obj c6
  have hlink := va_Nw.use (A := args) rfl (hK.2.1 _ hl rfl)
  have hP1 : va_P (gD Γ) clsL [(a, .inr (ci, (List.range n).map (val σ ci a)))] H := by
    intro k9 q9 h9
    have hz : k9 < 1 := (List.getElem?_eq_some_iff.mp h9).1
    rw [show k9 = 0 by omega] at h9
    cases h9
    refine ⟨_, c1, ?_⟩
    have hn : n = N := by rw [e1, c5]
    subst hn
    exact hO.to (fun j hj => by simp [vp_V, hj])
  refine va_getN hx hb hts c2 hown hK.1 hP1 0 rfl c1 k hk hlink (fun x hx9 => by rw [c7 k hk] at hx9; exact hx9) (v := val σ ci a k) ?_ hd w
  have hn : k < n := by rw [e1, ← c5]; exact hk
  simp [hn]
theorem EV.getI (pc' : Nat) (hp : pc + 3 = pc') {a n ci k idx : Nat} (hf : FL (mY M).cls idx ci k) (ht : tk ci k = 0) (hd : decode (mC M) pc = .ok (.getfield idx, 3)) (ha : hs σ a = some (ci, n)) (kk : EV Γ M d pc' L (.int (gi σ a k) :: st) σ Q) : EV Γ M d pc L (.ref a :: st) σ Q :=
  EV.getV pc' hp hf hd ha (by rw [val_0 ht]; exact kk)
theorem EV.getR (pc' : Nat) (hp : pc + 3 = pc') {a n ci k idx t : Nat} (hf : FL (mY M).cls idx ci k) (ht : tk ci k = 2) (hd : decode (mC M) pc = .ok (.getfield idx, 3)) (ha : hs σ a = some (ci, n)) (hr : gr σ a k = some t) (kk : EV Γ M d pc' L (.ref t :: st) σ Q) : EV Γ M d pc L (.ref a :: st) σ Q :=
  EV.getV pc' hp hf hd ha (by rw [val_2 ht, hr]; exact kk)
theorem EV.getIN (pc' : Nat) (hp : pc + 3 = pc') {a n ci k idx : Nat} (hf : FLN (mY M).cls idx ci k) (ht : tk ci k = 0) (hd : decode (mC M) pc = .ok (.getfield idx, 3)) (ha : hs σ a = some (ci, n)) (kk : EV Γ M d pc' L (.int (gi σ a k) :: st) σ Q) : EV Γ M d pc L (.ref a :: st) σ Q :=
  EV.getVN pc' hp hf hd ha (by rw [val_0 ht]; exact kk)
theorem EV.getRN (pc' : Nat) (hp : pc + 3 = pc') {a n ci k idx t : Nat} (hf : FLN (mY M).cls idx ci k) (ht : tk ci k = 2) (hd : decode (mC M) pc = .ok (.getfield idx, 3)) (ha : hs σ a = some (ci, n)) (hr : gr σ a k = some t) (kk : EV Γ M d pc' L (.ref t :: st) σ Q) : EV Γ M d pc L (.ref a :: st) σ Q :=
  EV.getVN pc' hp hf hd ha (by rw [val_2 ht, hr]; exact kk)
theorem cls_apart {ci : Nat} {C : String} {T : u_T} {N : Nat} {ty : Nat → FieldType} (h : CLS ci C T N ty) {Γ : Gm} {s : State} {args : Array Value} (hts : ∀ w ∈ AW, w.before args s = true) (hK : KN Γ s) : ∀ x y, x < N → y < N → x ≠ y → (gD Γ).2 ci x ≠ (gD Γ).2 ci y :=
  va_apart (own := C) hts h.2.1 ty h.2.2.1 h.2.2.2.1 hK.1 h.1
theorem EV.putV (pc' : Nat) (hp : pc + 3 = pc') {a n ci k idx : Nat} {v : Value} {τ : AH} (hf : FLW (mY M).cls idx ci k) (hd : decode (mC M) pc = .ok (.putfield idx, 3)) (ha : hs σ a = some (ci, n)) (hci : ci < 20) (ec : hc τ = hc σ) (ev : hv τ = hv σ) (es : hs τ = hs σ) (off : ∀ b, b ≠ a → gi τ b = gi σ b ∧ gj τ b = gj σ b ∧ gr τ b = gr σ b ∧ gd τ b = gd σ b) (hval : val τ ci a = updV (val σ ci a) k v)
    (hfit : ∀ ty : FieldType, (tk ci k = 0 ∧ ty = .int) ∨ (tk ci k = 2 ∧ ty.isReference = true) → narrow ty v = v ∧ fits ty v = true) (kk : EV Γ M d pc' L st τ Q) : EV Γ M d pc L (v :: .ref a :: st) σ Q := by
  subst hp
  obtain ⟨C9, T, N, ty, hC9, hk, hl, hfin⟩ := hf
  obtain ⟨c1, c2, c3, c4, c5, c6, c7, -, -, c10⟩ := id hC9
  refine EV.write (τ := τ) ec ev (fun h => h.upd ha (by omega) ec es (fun b hb => (off b hb).2.1)) (fun p e R s m args below meth c H locs cells slots Z ls C S hw P w => ?_) kk
  obtain ⟨hx, hb, -, hown, -, -, -, -, hts, hK, -⟩ := C
  obtain ⟨e1, cell, q1, q2, q3, q4⟩ := (P.1 _ _ _ ha).obj c6
  have hap := cls_apart hC9 hts hK
  obtain ⟨hS, hfc, kC, hkC, hkind⟩ := hK.1.1 ci _ c1
  obtain ⟨cf, kf, fi, f, hi, hsl⟩ := hS k hk
  have hi' : s.fieldFound? C9 (T k).2.1 (T k).2.2.1 = some (cf, kf, fi, f) := by rw [← c7 k hk]; exact hi
  have hlay := hts _ (c2 _ (u_in_lay hk))
  unfold u_lay at hlay
  rw [if_neg (by rw [hfin]; decide)] at hlay
  have hst := (u_facts hfc hkC (u_lays hts c2 hk) hi).1
  have h6 := u_store hfc hkC hkind hlay hi (c3 k hk) (hfit _ (c10 k hk)).1 (hfit _ (c10 k hk)).2
  have hn : n = N := by rw [e1, c5]
  subst hn
  refine W.putK hx hb (f := f) ⟨hown, hts _ hl, ⟨_, _, _, hi'⟩, hst⟩ (by rw [q2]; exact h6) q1 q3 (by rw [hsl]; exact k2_hasslot (q4 k hk)) rfl rfl hd fun H' e1' e2 e3 => ?_
  rw [hsl] at e1' ⊢
  refine w H' _ (S.put e2 e3 (hw.2.2.2.1 _ _ _ ha (by omega))) (P.upd ha e2 ec es off e3 (cellOK.ofObj c6 ⟨e1, ?_⟩))
  rw [hval]
  exact ⟨_, e1', q2, q3, t_set q4 hap hk v⟩
theorem EV.putFV (pc' : Nat) (hp : pc + 3 = pc') {a n ci k idx : Nat} {v : Value} {τ : AH} (hin : (mY M).name = "<init>") (hf : FLF (mY M).cls idx ci k) (hd : decode (mC M) pc = .ok (.putfield idx, 3)) (ha : hs σ a = some (ci, n)) (hci : ci < 20) (ec : hc τ = hc σ) (ev : hv τ = hv σ) (es : hs τ = hs σ) (off : ∀ b, b ≠ a → gi τ b = gi σ b ∧ gj τ b = gj σ b ∧ gr τ b = gr σ b ∧ gd τ b = gd σ b) (hval : val τ ci a = updV (val σ ci a) k v)
    (hfit : ∀ ty : FieldType, (tk ci k = 0 ∧ ty = .int) ∨ (tk ci k = 2 ∧ ty.isReference = true) → narrow ty v = v ∧ fits ty v = true) (kk : EV Γ M d pc' L st τ Q) : EV Γ M d pc L (v :: .ref a :: st) σ Q := by
  subst hp
  obtain ⟨C9, T, N, ty, hC9, hk, hl, hfin, hown9⟩ := hf
  obtain ⟨c1, c2, c3, c4, c5, c6, c7, -, -, c10⟩ := id hC9
  refine EV.write (τ := τ) ec ev (fun h => h.upd ha (by omega) ec es (fun b hb => (off b hb).2.1)) (fun p e R s m args below meth c H locs cells slots Z ls C S hw P w => ?_) kk
  obtain ⟨hx, hb, -, hown, -, -, -, hnm, hts, hK, -⟩ := C
  obtain ⟨e1, cell, q1, q2, q3, q4⟩ := (P.1 _ _ _ ha).obj c6
  have hap := cls_apart hC9 hts hK
  obtain ⟨hS, hfc, kC, hkC, hkind⟩ := hK.1.1 ci _ c1
  obtain ⟨cf, kf, fi, f, hi, hsl⟩ := hS k hk
  have hi' : s.fieldFound? C9 (T k).2.1 (T k).2.2.1 = some (cf, kf, fi, f) := by rw [← c7 k hk]; exact hi
  have hlay := hts _ (c2 _ (u_in_lay hk))
  unfold u_lay at hlay
  rw [if_pos hfin] at hlay
  have hst := (u_facts hfc hkC (u_lays hts c2 hk) hi).1
  have hcf : m.cls = cf := by
    obtain ⟨_, _, c', _, _, _, -, -, hf', -, -, -, hown2, -⟩ := Cond.laysFinal_spec hlay
    have e1 : c' = cf := by have := hi.symm.trans hf'; simp at this; exact this.1.symm
    rw [c7 k hk, hown9] at hown2
    rw [← e1]; exact Option.some.inj (hown.symm.trans hown2)
  have h6 := u_fits hfc hkC hkind (Or.inr hlay) hi (c3 k hk) (hfit _ (c10 k hk)).1 (hfit _ (c10 k hk)).2
  have hn : n = N := by rw [e1, c5]
  subst hn
  refine W.putFinK hx hb hown (hts _ hl) hi' hst hcf (hnm.trans hin) (by rw [q2]; exact h6) q1 q3 (by rw [hsl]; exact k2_hasslot (q4 k hk)) rfl rfl hd fun H' e1' e2 e3 => ?_
  rw [hsl] at e1' ⊢
  refine w H' _ (S.put e2 e3 (hw.2.2.2.1 _ _ _ ha (by omega))) (P.upd ha e2 ec es off e3 (cellOK.ofObj c6 ⟨e1, ?_⟩))
  rw [hval]
  exact ⟨_, e1', q2, q3, t_set q4 hap hk v⟩
theorem fit_int {ci k : Nat} (h : tk ci k = 0) (x : Int32) : ∀ ty : FieldType, (tk ci k = 0 ∧ ty = .int) ∨ (tk ci k = 2 ∧ ty.isReference = true) → narrow ty (.int x) = .int x ∧ fits ty (.int x) = true := by
  intro ty h9
  rcases h9 with ⟨-, rfl⟩ | ⟨h2, -⟩
  · exact ⟨rfl, rfl⟩
  · rw [h] at h2; cases h2
theorem fit_ref {ci k : Nat} (h : tk ci k = 2) (x : Nat) : ∀ ty : FieldType, (tk ci k = 0 ∧ ty = .int) ∨ (tk ci k = 2 ∧ ty.isReference = true) → narrow ty (.ref x) = .ref x ∧ fits ty (.ref x) = true := by
  intro ty h9
  rcases h9 with ⟨h2, -⟩ | ⟨-, h2⟩
  · rw [h] at h2; cases h2
  · cases ty <;> first | exact ⟨rfl, rfl⟩ | (simp [FieldType.isReference] at h2)
theorem EV.putI (pc' : Nat) (hp : pc + 3 = pc') {a n ci k idx : Nat} {x : Int32} (hf : FLW (mY M).cls idx ci k) (ht : tk ci k = 0) (hci : ci < 20) (hd : decode (mC M) pc = .ok (.putfield idx, 3)) (ha : hs σ a = some (ci, n)) (kk : EV Γ M d pc' L st (setI σ a k x) Q) : EV Γ M d pc L (.int x :: .ref a :: st) σ Q :=
  EV.putV (τ := setI σ a k x) pc' hp hf hd ha hci rfl rfl rfl (off_I σ a _) (val_setI σ a k x ci ht) (fit_int ht x) kk
theorem EV.putR (pc' : Nat) (hp : pc + 3 = pc') {a n ci k idx x : Nat} (hf : FLW (mY M).cls idx ci k) (ht : tk ci k = 2) (hci : ci < 20) (hd : decode (mC M) pc = .ok (.putfield idx, 3)) (ha : hs σ a = some (ci, n)) (kk : EV Γ M d pc' L st (setR σ a k (some x)) Q) : EV Γ M d pc L (.ref x :: .ref a :: st) σ Q :=
  EV.putV (τ := setR σ a k (some x)) pc' hp hf hd ha hci rfl rfl rfl (off_R σ a _) (val_setR σ a k (some x) ci ht) (fit_ref ht x) kk
theorem EV.putFI (pc' : Nat) (hp : pc + 3 = pc') {a n ci k idx : Nat} {x : Int32} (hin : (mY M).name = "<init>") (hf : FLF (mY M).cls idx ci k) (ht : tk ci k = 0) (hci : ci < 20) (hd : decode (mC M) pc = .ok (.putfield idx, 3)) (ha : hs σ a = some (ci, n)) (kk : EV Γ M d pc' L st (setI σ a k x) Q) : EV Γ M d pc L (.int x :: .ref a :: st) σ Q :=
  EV.putFV (τ := setI σ a k x) pc' hp hin hf hd ha hci rfl rfl rfl (off_I σ a _) (val_setI σ a k x ci ht) (fit_int ht x) kk
theorem EV.putFR (pc' : Nat) (hp : pc + 3 = pc') {a n ci k idx x : Nat} (hin : (mY M).name = "<init>") (hf : FLF (mY M).cls idx ci k) (ht : tk ci k = 2) (hci : ci < 20) (hd : decode (mC M) pc = .ok (.putfield idx, 3)) (ha : hs σ a = some (ci, n)) (kk : EV Γ M d pc' L st (setR σ a k (some x)) Q) : EV Γ M d pc L (.ref x :: .ref a :: st) σ Q :=
  EV.putFV (τ := setR σ a k (some x)) pc' hp hin hf hd ha hci rfl rfl rfl (off_R σ a _) (val_setR σ a k (some x) ci ht) (fit_ref ht x) kk
/-- a step that makes a cell -/
theorem EV.make {pc' k n : Nat} {st' : List Value}
    (f : ∀ (p : Program) (e : Env) (R : Room) (s : State) (m : MethodId) (args : Array Value) (below : List Frame) (meth : Method) (c : Code) (H : Heap) (locs : List Loc) (cells slots : Nat) (Z : State → Prop) (ls : Array Slot),
      CX Γ M p s m args meth c → va_S (ownA Γ) s.heap H locs → WF Γ σ → HP Γ σ s H → cells + 1 ≤ R.cells → slots + n ≤ R.slots → (∀ H' locs', va_S (ownA Γ) s.heap H' locs' → HP Γ (mk σ (lo Γ + hc σ) k n) s H' → W p (gL Γ) e R s m args below meth c H' locs' (cells + 1) (slots + n) Z (F0 m pc' ls st')) → W p (gL Γ) e R s m args below meth c H locs cells slots Z (F0 m pc ls st))
    (kk : EV Γ M d pc' L st' (mk σ (lo Γ + hc σ) k n) Q) : EV Γ M d pc L st σ Q := by
  intro hw
  obtain ⟨o, σ', ⟨h1, h2, h⟩, q⟩ := kk hw.mk
  rw [hc_mk] at h1
  rw [hv_mk] at h2
  refine ⟨o, σ', ⟨by omega, by omega, fun p e s m args below meth c H locs ls k0 n0 C S P l a b => f p e _ s m args below meth c H locs _ _ _ ls C S hw P ?_ ?_ (fun H' locs' S' P' => ?_)⟩, q⟩
  · show hc σ - k0 + 1 ≤ hc σ' - k0
    omega
  · show hv σ - n0 + n ≤ hv σ' - n0
    omega
  · have h9 := h p e s m args below meth c H' locs' ls k0 n0 C S' P' l (by rw [hc_mk]; omega) (by rw [hv_mk]; omega)
    rw [hc_mk, hv_mk, show hc σ + 1 - k0 = hc σ - k0 + 1 by omega, show hv σ + n - n0 = hv σ - n0 + n by omega] at h9
    exact h9
theorem mk_S {A : Nat → Prop} {H0 H H' : Heap} {locs : List Loc} (h : va_S A H0 H locs) (hz : H'.size = H.size + 1) (o : ∀ q, q < H.size → H'[q]? = H[q]?) : va_S A H0 H' locs := ⟨Nat.le_trans h.1 (by omega), fun x h1 h2 => (o x (Nat.lt_of_lt_of_le h1 h.1)).trans (h.2.1 x h1 h2), h.2.2⟩
theorem val_mk (σ : AH) (q k n : Nat) : val (mk σ q k n) k q = fun i => match tk k i with | 0 => .int 0 | 1 => .long 0 | 2 => .null | _ => .double 0 := by
  funext i
  simp only [val, gi_mk, gj_mk, gr_mk, gd_mk, up_same]
  rfl
theorem EV.new (pc' : Nat) (hp : pc + 3 = pc') {ci idx n : Nat} (hl : NL (mY M).cls idx ci) (hn : (tkO ci).length = n) (hd : decode (mC M) pc = .ok (.new idx, 3)) (kk : EV Γ M d pc' L (.ref (lo Γ + hc σ) :: st) (mk σ (lo Γ + hc σ) ci n) Q) : EV Γ M d pc L st σ Q := by
  subst hp
  obtain ⟨C9, T, N, ty, ⟨c1, c2, c3, c4, c5, c6, c7, c8, c9, c10⟩, hl⟩ := hl
  refine EV.make (fun p e R s m args below meth c H locs cells slots Z ls C S hw P hcells hslots w => ?_) kk
  obtain ⟨hx, hb, -, hown, -, -, -, -, hts, hK, -⟩ := C
  have hKn := hK.1.1 ci _ c1
  have hN : N = n := c5.trans hn
  subst hN
  refine W.newcK hx hb hown (hts _ hl) (hts _ c8) (hts _ c9) rfl hd hcells hslots hKn.2.1 P.2 fun H1 kC hkC e1 z1 o1 => ?_
  have o2 : ∀ q, q < H.size → H1[q]? = H[q]? := by rw [P.2]; exact o1
  have z2 : H1.size = H.size + 1 := by rw [P.2]; exact z1
  refine w H1 _ (mk_S S z2 o2) (P.mk o2 z2 (cellOK.ofObj c6 ⟨hn.symm, ?_⟩))
  refine (u_born ty hts c2 hKn hkC e1 c3).to (fun j hj => ?_)
  rw [val_mk]
  rcases c10 j hj with ⟨h1, h2⟩ | ⟨h1, h2⟩
  · simp only [h1, h2]; rfl
  · simp only [h1]
    cases hty : ty j <;> first | rfl | (rw [hty] at h2; simp [FieldType.isReference] at h2)
theorem EV.newB (pc' : Nat) (hp : pc + 2 = pc') {i : Int32} {n : Nat} (hw9 : Cond.arrayClass .byte ∈ AW) (hd : decode (mC M) pc = .ok (.newarray .byte, 2)) (hi : i.toInt = (n : Int)) (hb9 : n ≤ 60000000) (kk : EV Γ M d pc' L (.ref (lo Γ + hc σ) :: st) (mk σ (lo Γ + hc σ) 20 n) Q) : EV Γ M d pc L (.int i :: st) σ Q := by
  subst hp
  have hN : i.toNatClampNeg = n := by show i.toInt.toNat = n; rw [hi]; rfl
  have hneg : ¬ i < 0 := by
    intro h
    have h2 := Int32.lt_iff_toInt_lt.mp h
    rw [hi] at h2
    have h3 : ((0 : Int32)).toInt = 0 := by decide
    omega
  refine EV.make (fun p e R s m args below meth c H locs cells slots Z ls C S hw P hcells hslots w => ?_) kk
  obtain ⟨hx, hb, -, hown, -, -, -, -, hts, hK, -⟩ := C
  refine va_newaK (atype := .byte) hx hb (hts _ hw9) rfl hd rfl hneg hN (Nat.le_trans (Nat.mul_le_mul_right _ hb9) (Nat.le_of_ble_eq_true rfl)) hcells hslots P.2 fun H1 cA e1 z1 o1 hAr hNm => ?_
  have hcA : cA = gE Γ 20 := by
    have h9 := (hK.1.2 0 _ rfl).2
    exact Option.some.inj (hNm.symm.trans h9)
  subst hcA
  have o2 : ∀ q, q < H.size → H1[q]? = H[q]? := by rw [P.2]; exact o1
  have z2 : H1.size = H.size + 1 := by rw [P.2]; exact z1
  refine w H1 _ (mk_S S z2 o2) (P.mk o2 z2 (cellOK.ofArr (by decide) (by decide) ?_))
  rw [val_mk]
  exact e1
theorem EV.newI (pc' : Nat) (hp : pc + 2 = pc') {i : Int32} {n : Nat} (hw9 : Cond.arrayClass .int ∈ AW) (hd : decode (mC M) pc = .ok (.newarray .int, 2)) (hi : i.toInt = (n : Int)) (hb9 : n ≤ 60000000) (kk : EV Γ M d pc' L (.ref (lo Γ + hc σ) :: st) (mk σ (lo Γ + hc σ) 22 n) Q) : EV Γ M d pc L (.int i :: st) σ Q := by
  subst hp
  have hN : i.toNatClampNeg = n := by show i.toInt.toNat = n; rw [hi]; rfl
  have hneg : ¬ i < 0 := by
    intro h
    have h2 := Int32.lt_iff_toInt_lt.mp h
    rw [hi] at h2
    have h3 : ((0 : Int32)).toInt = 0 := by decide
    omega
  refine EV.make (fun p e R s m args below meth c H locs cells slots Z ls C S hw P hcells hslots w => ?_) kk
  obtain ⟨hx, hb, -, hown, -, -, -, -, hts, hK, -⟩ := C
  refine va_newaK (atype := .int) hx hb (hts _ hw9) rfl hd rfl hneg hN (Nat.le_trans (Nat.mul_le_mul_right _ hb9) (Nat.le_of_ble_eq_true rfl)) hcells hslots P.2 fun H1 cA e1 z1 o1 hAr hNm => ?_
  have hcA : cA = gE Γ 22 := by
    have h9 := (hK.1.2 2 _ rfl).2
    exact Option.some.inj (hNm.symm.trans h9)
  subst hcA
  have o2 : ∀ q, q < H.size → H1[q]? = H[q]? := by rw [P.2]; exact o1
  have z2 : H1.size = H.size + 1 := by rw [P.2]; exact z1
  refine w H1 _ (mk_S S z2 o2) (P.mk o2 z2 (cellOK.ofArr (by decide) (by decide) ?_))
  rw [val_mk]
  exact e1
theorem EV.newJ (pc' : Nat) (hp : pc + 2 = pc') {i : Int32} {n : Nat} (hw9 : Cond.arrayClass .long ∈ AW) (hd : decode (mC M) pc = .ok (.newarray .long, 2)) (hi : i.toInt = (n : Int)) (hb9 : n ≤ 60000000) (kk : EV Γ M d pc' L (.ref (lo Γ + hc σ) :: st) (mk σ (lo Γ + hc σ) 23 n) Q) : EV Γ M d pc L (.int i :: st) σ Q := by
  subst hp
  have hN : i.toNatClampNeg = n := by show i.toInt.toNat = n; rw [hi]; rfl
  have hneg : ¬ i < 0 := by
    intro h
    have h2 := Int32.lt_iff_toInt_lt.mp h
    rw [hi] at h2
    have h3 : ((0 : Int32)).toInt = 0 := by decide
    omega
  refine EV.make (fun p e R s m args below meth c H locs cells slots Z ls C S hw P hcells hslots w => ?_) kk
  obtain ⟨hx, hb, -, hown, -, -, -, -, hts, hK, -⟩ := C
  refine va_newaK (atype := .long) hx hb (hts _ hw9) rfl hd rfl hneg hN (Nat.le_trans (Nat.mul_le_mul_right _ hb9) (Nat.le_of_ble_eq_true rfl)) hcells hslots P.2 fun H1 cA e1 z1 o1 hAr hNm => ?_
  have hcA : cA = gE Γ 23 := by
    have h9 := (hK.1.2 3 _ rfl).2
    exact Option.some.inj (hNm.symm.trans h9)
  subst hcA
  have o2 : ∀ q, q < H.size → H1[q]? = H[q]? := by rw [P.2]; exact o1
  have z2 : H1.size = H.size + 1 := by rw [P.2]; exact z1
  refine w H1 _ (mk_S S z2 o2) (P.mk o2 z2 (cellOK.ofArr (by decide) (by decide) ?_))
  rw [val_mk]
  exact e1
end FIELDR
