/-! THE CONTEXT: words, tables, what the heap is. -/
abbrev clsL : List vw_C := [(RX0, TX0, 4), (RX1, TX1, 2), (RX2, TX2, 3), (RX3, TX3, 8), (RX4, TX4, 3), (RX6, TX6, 10), (RX8, TX8, 17)]
/-- the launch, the classes' numbers and slots, the array classes' numbers, the first address of our own, the address of WITH -/
abbrev Gm : Type := Launch × va_G × (Nat → ClassId) × Nat × Nat
def gL (Γ : Gm) : Launch := Γ.1
def gD (Γ : Gm) : va_G := Γ.2.1
def gE (Γ : Gm) : Nat → ClassId := Γ.2.2.1
def lo (Γ : Gm) : Nat := Γ.2.2.2.1
def wth (Γ : Gm) : Nat := Γ.2.2.2.2
def tysL (Γ : Gm) : List (ClassId × FieldType) := [(gE Γ 20, .byte), (gE Γ 22, .int), (gE Γ 22, .int), (gE Γ 23, .long), (gE Γ 23, .long), (gE Γ 25, .object RX4), (gE Γ 26, .array .long)]
/-- all words that a call may carry -/
def AW : List Cond := lw_tbl.filter goodWord
theorem aw_of {i : Nat} {w : Cond} (h : lw_tbl[i]? = some w) (g : goodWord w = true) : w ∈ AW := List.mem_filter.mpr ⟨List.mem_of_getElem? h, g⟩
/-- words that hold by the tables alone, but are carried by laws of their own -/
def ngW (w : Cond) : Bool := match w with
  | .fieldLinkNest .. => true
  | .methodLinkNest .. => true
  | .declares _ => true
  | .castable .. => true
  | .arrayOver _ => true
  | _ => false
def NGs (U : State) : Prop := ∀ w ∈ lw_tbl, ngW w = true → va_Nw w U
theorem ao_spec {args : Array Value} {first s : State} {o : Option Outcome} {idx : List Nat} {t : FieldType} (h : (Cond.arrayOver (.array t)).holds args first o s idx = true) :
    ∃ comp c k, s.vm.findClass (FieldType.array t).toString = some comp ∧ (s.vm.classes.findIdx? fun (x : Class) => match x.kind with | .array component _ => component == comp | _ => false) = some c ∧ s.vm.classes[c]? = some k ∧ k.kind = .array comp (.array t) ∧ s.vm.findClass ("[" ++ (FieldType.array t).toString) = some c := by
  simp only [Cond.holds, Cond.value, beq_iff_eq] at h
  cases hc : s.vm.findClass (FieldType.array t).toString with
  | none => simp [hc] at h
  | some comp =>
    simp only [hc, Option.bind_some, Option.bind_eq_some_iff, Option.map_eq_some_iff] at h
    obtain ⟨c, hi, k, hk, hb⟩ := h
    obtain ⟨hlt, hp, -⟩ := Array.findIdx?_eq_some_iff_getElem.mp hi
    have hkk : s.vm.classes[c] = k := (Array.getElem?_eq_some_iff.mp hk).2
    rw [hkk] at hp
    cases hkind : k.kind with
    | array component ty =>
      rw [hkind] at hb hp
      simp at hb hp
      exact ⟨comp, c, k, rfl, hi, hk, by rw [hkind, hp, hb.1], hb.2⟩
    | _ => rw [hkind] at hb; simp at hb
theorem ao_moved {t : FieldType} {u U : State} (hvm : u.vm.Alike U.vm) (h : (Cond.arrayOver (.array t)).before #[] u = true) : (Cond.arrayOver (.array t)).before #[] U = true := by
  obtain ⟨comp, c, k, h1, h2, h3, h4, h5⟩ := ao_spec h
  obtain ⟨k', hk', he⟩ := hvm.2.2 _ _ h3
  have hi : (U.vm.classes.findIdx? fun (x : Class) => match x.kind with | .array component _ => component == comp | _ => false) = some c := by
    have e1 := va_idx_bare U.vm comp
    have e2 := va_idx_bare u.vm comp
    first | rw [hvm.bare_eq] at e1 | rw [← hvm.bare_eq] at e1
    exact e1.symm.trans (e2.trans h2)
  have hkind : k'.kind = .array comp (.array t) := by rw [he]; exact h4
  have f1 : U.vm.findClass (FieldType.array t).toString = some comp := by rw [hvm.findClass]; exact h1
  have f2 : U.vm.findClass ("[" ++ (FieldType.array t).toString) = some c := by rw [hvm.findClass]; exact h5
  unfold Cond.before Cond.holds
  simp only [Cond.value]
  rw [f1, Option.bind_some]
  refine (congrArg (fun o : Option Nat => (o.bind (fun c => (U.vm.classes[c]?).map fun (k : Class) => match k.kind with | .array _ ty => decide (ty = FieldType.array t) && decide (U.vm.findClass ("[" ++ (FieldType.array t).toString) = some c) | _ => false) == some true)) hi).trans ?_
  simp [hk', hkind, f2]
theorem ng_warm {w : Cond} (hk : ngW w = true) {s U : State} (hW : s.WarmedH U.vm) (hZ : va_Nw w s) : va_Nw w U := by
  cases w <;> first | (simp [ngW] at hk; done) | exact va_Nw.warmF hW hZ | exact va_Nw.warmM hW hZ | exact va_Nw.warmD hW hZ | exact va_Nw.warmC hW hZ | skip
  rename_i ty
  cases ty with
  | object C => exact va_AO.moved hW.alike hZ
  | array t => exact ao_moved hW.alike hZ
  | _ => simp [va_Nw, Cond.before, Cond.holds, Cond.value] at hZ
def withV (j : Nat) : Int64 := match j with
  | 0 => Int64.ofBitVec 0xAAAAAAAAAAAAAAAA#64
  | 1 => Int64.ofBitVec 0xCCCCCCCCCCCCCCCC#64
  | 2 => Int64.ofBitVec 0xF0F0F0F0F0F0F0F0#64
  | 3 => Int64.ofBitVec 0xFF00FF00FF00FF00#64
  | 4 => Int64.ofBitVec 0xFFFF0000FFFF0000#64
  | _ => Int64.ofBitVec 0xFFFFFFFF00000000#64
def ownA (Γ : Gm) : Nat → Prop := fun q => lo Γ ≤ q
/-- the statics that are read: where they lie, what they hold -/
def ST (Γ : Gm) (U : State) (H : Heap) : Prop := va_Z "FamilyStore$Rows" "WITH" "[J" (.ref (wth Γ)) (ownA Γ) U H ∧ vx_Zq Bundle.tN "UNASSIGNED_STACK" Bundle.steD (ownA Γ) U H ∧ vx_Zq Bundle.tN "SUPPRESSED_SENTINEL" Bundle.listD (ownA Γ) U H
def cellOK (Γ : Gm) (U : State) (σ : AH) (H : Heap) (a k n : Nat) : Prop :=
  if k < 20 then n = (tkO k).length ∧ t_OB a ((gD Γ).1 k) n ((gD Γ).2 k) H (val σ k a)
  else if k < 27 then H[a]? = some (arrV (gE Γ k) n (val σ k a))
  else ∃ cell : Cell, H[a]? = some cell ∧ U.isArrayOf cell (if k = 27 then .long else .int) ∧ cell.vm ≠ .unknown ∧ n ≤ cell.slots.size ∧ (k = 28 → cell.slots.size = n) ∧ ∀ j : Nat, j < n → cell.slots[j]? = some (val σ k a j)
/-- an abstract heap as it should be: what is there lies below the first free address, and WITH is where it is -/
def WF (Γ : Gm) (σ : AH) : Prop := (∀ a x, hs σ a = some x → a < lo Γ + hc σ) ∧ hs σ (wth Γ) = some (27, 6) ∧ (∀ j, j < 6 → gj σ (wth Γ) j = withV j) ∧ (∀ a k n, hs σ a = some (k, n) → k < 27 → lo Γ ≤ a) ∧ (gL Γ).stackTraces = false
def HP (Γ : Gm) (σ : AH) (U : State) (H : Heap) : Prop := (∀ a k n, hs σ a = some (k, n) → cellOK Γ U σ H a k n) ∧ H.size = lo Γ + hc σ
theorem cellOK.lt {Γ : Gm} {U : State} {σ : AH} {H : Heap} {a k n : Nat} (h : cellOK Γ U σ H a k n) : a < H.size := by
  unfold cellOK at h
  split at h
  · obtain ⟨-, cell, h1, -⟩ := h
    exact (Array.getElem?_eq_some_iff.mp h1).1
  · split at h
    · exact (Array.getElem?_eq_some_iff.mp h).1
    · obtain ⟨cell, h1, -⟩ := h
      exact (Array.getElem?_eq_some_iff.mp h1).1
theorem cellOK.kept {Γ : Gm} {U U' : State} {σ τ : AH} {H H' : Heap} {a k n : Nat} (h : cellOK Γ U σ H a k n) (hvm : U.vm.Alike U'.vm) (hq : H'[a]? = H[a]?) (hv : val τ k a = val σ k a) : cellOK Γ U' τ H' a k n := by
  unfold cellOK at h ⊢
  split at h
  · rename_i hk
    rw [if_pos hk]
    exact ⟨h.1, by rw [hv]; exact h.2.kept hq⟩
  · rename_i hk
    rw [if_neg hk]
    split at h
    · rename_i hk2
      rw [if_pos hk2, hv, hq]
      exact h
    · rename_i hk2
      rw [if_neg hk2]
      obtain ⟨cell, h1, h2, h3⟩ := h
      exact ⟨cell, by rw [hq]; exact h1, State.isArrayOf_alike hvm h2, by rw [hv]; exact h3⟩
theorem HP.moved {Γ : Gm} {σ : AH} {U U' : State} {H : Heap} (hvm : U.vm.Alike U'.vm) (h : HP Γ σ U H) : HP Γ σ U' H := ⟨fun a k n ha => (h.1 a k n ha).kept hvm rfl rfl, h.2⟩
theorem HP.lt {Γ : Gm} {σ : AH} {U : State} {H : Heap} (h : HP Γ σ U H) {a k n : Nat} (ha : hs σ a = some (k, n)) : a < H.size := (h.1 a k n ha).lt
/-- one cell of ours has changed -/
theorem HP.upd {Γ : Gm} {σ τ : AH} {U : State} {H H' : Heap} {a k n : Nat} (h : HP Γ σ U H) (ha : hs σ a = some (k, n)) (hsz : H'.size = H.size) (ec : hc τ = hc σ) (e : hs τ = hs σ) (o : ∀ b, b ≠ a → gi τ b = gi σ b ∧ gj τ b = gj σ b ∧ gr τ b = gr σ b ∧ gd τ b = gd σ b)
    (hH : ∀ q, q ≠ a → H'[q]? = H[q]?) (hcell : cellOK Γ U τ H' a k n) : HP Γ τ U H' := by
  refine ⟨fun b k' n' hb => ?_, by rw [hsz, ec]; exact h.2⟩
  rw [e] at hb
  by_cases hba : b = a
  · subst hba
    have h3 := ha.symm.trans hb
    cases h3
    exact hcell
  · exact (h.1 b k' n' hb).kept (Vm.Alike.refl _) (hH b hba) (val_congr (o b hba))
/-- one cell more -/
theorem HP.mk {Γ : Gm} {σ : AH} {U : State} {H H' : Heap} {k n : Nat} (h : HP Γ σ U H) (hH : ∀ q, q < H.size → H'[q]? = H[q]?) (hsz : H'.size = H.size + 1) (hcell : cellOK Γ U (mk σ (lo Γ + hc σ) k n) H' (lo Γ + hc σ) k n) : HP Γ (mk σ (lo Γ + hc σ) k n) U H' := by
  refine ⟨fun b k' n' hb => ?_, by rw [hsz, h.2, hc_mk]; omega⟩
  rw [hs_mk, up_app] at hb
  by_cases hba : b = lo Γ + hc σ
  · rw [if_pos hba] at hb
    cases hb
    rw [hba]
    exact hcell
  · rw [if_neg hba] at hb
    refine (h.1 b k' n' hb).kept (Vm.Alike.refl _) (hH b (h.lt hb)) (val_congr ?_)
    exact ⟨up_ne _ _ hba, up_ne _ _ hba, up_ne _ _ hba, up_ne _ _ hba⟩
/-- what was there stays: a throwable was made -/
theorem HP.thr {Γ : Gm} {σ : AH} {U : State} {H H' : Heap} (h : HP Γ σ U H) (hH : ∀ q, q < H.size → H'[q]? = H[q]?) (hsz : H'.size = H.size + 1) : HP Γ (thr σ) U H' :=
  ⟨fun b k' n' hb => (h.1 b k' n' hb).kept (Vm.Alike.refl _) (hH b (h.lt hb)) (val_congr ⟨rfl, rfl, rfl, rfl⟩), by rw [hsz, h.2, hc_thr]; omega⟩
theorem WF.upd {Γ : Gm} {σ τ : AH} {a k n : Nat} (h : WF Γ σ) (ha : hs σ a = some (k, n)) (hk : k < 27) (ec : hc τ = hc σ) (e : hs τ = hs σ) (o : ∀ b, b ≠ a → gj τ b = gj σ b) : WF Γ τ := by
  have hw : wth Γ ≠ a := by
    intro q
    have h2 := h.2.1
    rw [q, ha] at h2
    cases h2
    omega
  exact ⟨by rw [e, ec]; exact h.1, by rw [e]; exact h.2.1, by rw [o _ hw]; exact h.2.2.1, by rw [e]; exact h.2.2.2.1, h.2.2.2.2⟩
theorem WF.mk {Γ : Gm} {σ : AH} {k n : Nat} (h : WF Γ σ) : WF Γ (mk σ (lo Γ + hc σ) k n) := by
  have hw : wth Γ < lo Γ + hc σ := h.1 _ _ h.2.1
  refine ⟨fun a x ha => ?_, ?_, ?_, fun a k' n' ha hk => ?_, h.2.2.2.2⟩
  · rw [hs_mk, up_app] at ha
    rw [hc_mk]
    split at ha
    · omega
    · have := h.1 a x ha
      omega
  · rw [hs_mk, up_ne _ _ (by omega)]; exact h.2.1
  · rw [gj_mk, up_ne _ _ (by omega)]; exact h.2.2.1
  · rw [hs_mk, up_app] at ha
    split at ha
    · omega
    · exact h.2.2.2.1 a k' n' ha hk
theorem WF.thr {Γ : Gm} {σ : AH} (h : WF Γ σ) : WF Γ (thr σ) := ⟨fun a x ha => by have := h.1 a x ha; rw [hc_thr]; omega, h.2⟩
theorem ST.kept {Γ : Gm} {U : State} {H H' : Heap} (h : ST Γ U H) (hq : ∀ a : Nat, a < H.size → ¬ ownA Γ a → H'[a]? = H[a]?) : ST Γ U H' := ⟨h.1.kept hq, h.2.1.kept hq, h.2.2.kept hq⟩
theorem ST.moved {Γ : Gm} {U U' : State} {H : Heap} (hvm : U.vm.Alike U'.vm) (h : ST Γ U H) : ST Γ U' H := ⟨va_Z.moved hvm h.1, h.2.1.moved hvm, h.2.2.moved hvm⟩
/-- rows of rows: their class's component is the class of rows of longs -/
def KX (Γ : Gm) (U : State) : Prop := ∃ kA : Class, U.vm.classes[gE Γ 26]? = some kA ∧ kA.kind = .array (gE Γ 23) (.array .long)
theorem KX.moved {Γ : Gm} {U U' : State} (hvm : U.vm.Alike U'.vm) (h : KX Γ U) : KX Γ U' := by
  obtain ⟨kA, h1, h2⟩ := h
  obtain ⟨k', hk', he⟩ := hvm.2.2 _ _ h1
  exact ⟨k', hk', by rw [he]; exact h2⟩
/-- the five classes that are thrown: none is another -/
def excs : List String := ["java/lang/IllegalStateException", "java/lang/IllegalArgumentException", "java/lang/IndexOutOfBoundsException", "java/util/NoSuchElementException", "java/lang/ArithmeticException"]
def KC (_ : State) : Prop := True
def KN (Γ : Gm) (U : State) : Prop := va_K (gD Γ) clsL (tysL Γ) U ∧ NGs U ∧ KX Γ U ∧ KC U
theorem KN.warm {Γ : Gm} {s U : State} (hW : s.WarmedH U.vm) (h : KN Γ s) : KN Γ U := ⟨va_K.moved hW.alike h.1, fun w hw hk => ng_warm hk hW (h.2.1 w hw hk), h.2.2.1.moved hW.alike, trivial⟩
