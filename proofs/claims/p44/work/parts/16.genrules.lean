/-! RULES FOR THE PRINTED SEGMENTS. -/
def lmask : List Bool → List (Option Value) → List (Option Value)
  | b :: bs, x :: xs => (if b = true then x else none) :: lmask bs xs
  | _, _ => []
theorem lmask_at : ∀ (bs : List Bool) (xs : List (Option Value)) (k : Nat) (v : Value), (lmask bs xs)[k]? = some (some v) → xs[k]? = some (some v)
  | [], xs, k, v, h => by simp [lmask] at h
  | b :: bs, [], k, v, h => by simp [lmask] at h
  | b :: bs, x :: xs, k, v, h => by
    cases k with
    | zero =>
      simp only [lmask, List.getElem?_cons_zero, Option.some.injEq] at h ⊢
      split at h
      · exact h
      · cases h
    | succ k => exact lmask_at bs xs k v h
section GENR
variable {Γ : Gm} {M : MI} {d pc : Nat} {L : List (Option Value)} {st st0 : List Value} {σ : AH} {Q : Oc → AH → Prop}
theorem EV.mask (bs : List Bool) {L' : List (Option Value)} (hL : lmask bs L = L') (k : EV Γ M d pc L' st σ Q) : EV Γ M d pc L st σ Q := k.less (fun i v h => lmask_at bs L i v (by rw [hL]; exact h))
theorem EV.ishlC (pc' : Nat) (hp : pc + 1 = pc') {x y : Int32} (hy : y &&& 31 = y) (hd : decode (mC M) pc = .ok (.ishl, 1)) (k : EV Γ M d pc' L (.int (x <<< y) :: st) σ Q) : EV Γ M d pc L (.int y :: .int x :: st) σ Q :=
  EV.ishl pc' hp hd (by rw [hy]; exact k)
theorem EV.ishrC (pc' : Nat) (hp : pc + 1 = pc') {x y : Int32} (hy : y &&& 31 = y) (hd : decode (mC M) pc = .ok (.ishr, 1)) (k : EV Γ M d pc' L (.int (x >>> y) :: st) σ Q) : EV Γ M d pc L (.int y :: .int x :: st) σ Q :=
  EV.ishr pc' hp hd (by rw [hy]; exact k)
theorem EV.lshlC (pc' : Nat) (hp : pc + 1 = pc') {x z : Int64} {y : Int32} (hy : y.toInt64 &&& 63 = z) (hd : decode (mC M) pc = .ok (.lshl, 1)) (k : EV Γ M d pc' L (.long (x <<< z) :: st) σ Q) : EV Γ M d pc L (.int y :: .long x :: st) σ Q :=
  EV.lshl pc' hp hd (by rw [hy]; exact k)
/-- static calls do not throw here -/
theorem EV.cS {M2 : MI} {pc' idx n : Nat} {vs : List Value} {K : Option Value → AH → Prop} (hp : pc + 3 = pc') (hl : LKS (mY M).cls idx M2 n) (hH : mH M2 = []) (hn : vs.length = n) (hst : st0 = vs.reverse ++ st) (hcat : (st.map fun v => v.category).sum ≤ 8) (hd : decode (mC M) pc = .ok (.invokestatic idx, 3))
    (h : CALL Γ d M2 vs σ K (fun _ _ => False)) (k : ∀ v σ1, K v σ1 → EV Γ M d pc' L (v.toList ++ st) σ1 Q) : EV Γ M d pc L st0 σ Q := by
  refine EV.wf (fun hw => ?_)
  obtain ⟨d2, hdd, o, σ1, r1, w1, q⟩ := h hw
  cases o with
  | inl v => exact EV.callS hp hl hH hn hst hcat hd hdd r1 w1 (k v σ1 q)
  | inr E => exact q.elim
theorem EV.cSW {M2 : MI} {pc' idx n : Nat} {vs : List Value} {K : Option Value → AH → Prop} {x : Nat × Nat × Nat × Nat} {r : List (Nat × Nat × Nat × Nat)} (hp : pc + 3 = pc') (hl : LKS (mY M).cls idx M2 n) (hH : mH M2 = x :: r) (hn : vs.length = n) (hst : st0 = vs.reverse ++ st) (hcat : (st.map fun v => v.category).sum ≤ 8) (hd : decode (mC M) pc = .ok (.invokestatic idx, 3))
    (h : CALL Γ d M2 vs σ K (fun _ _ => False)) (k : ∀ v σ1, K v σ1 → EV Γ M d pc' L (v.toList ++ st) σ1 Q) : EV Γ M d pc L st0 σ Q := by
  refine EV.wf (fun hw => ?_)
  obtain ⟨d2, hdd, o, σ1, r1, w1, q⟩ := h hw
  cases o with
  | inl v => exact EV.callSW hp hl hH hn hst hcat hd hdd r1 w1 (k v σ1 q)
  | inr E => exact q.elim
theorem EV.cV {M2 : MI} {pc' idx n ci nb b : Nat} {vs : List Value} {K : Option Value → AH → Prop} (hM : mH M = []) (hp : pc + 3 = pc') (hl : LKV (mY M).cls idx M2 n ci) (hH : mH M2 = []) (hn : vs.length = n) (hst : st0 = vs.reverse ++ .ref b :: st) (hcat : (st.map fun v => v.category).sum ≤ 8) (hd : decode (mC M) pc = .ok (.invokevirtual idx, 3)) (hb9 : hs σ b = some (ci, nb))
    (h : CALL Γ d M2 (.ref b :: vs) σ K (fun E σ1 => Q (.inr E) σ1)) (k : ∀ v σ1, K v σ1 → EV Γ M d pc' L (v.toList ++ st) σ1 Q) : EV Γ M d pc L st0 σ Q := by
  refine EV.wf (fun hw => ?_)
  obtain ⟨d2, hdd, o, σ1, r1, w1, q⟩ := h hw
  cases o with
  | inl v => exact EV.callV hp hl hH hn hst hcat hd hdd hb9 r1 w1 (k v σ1 q)
  | inr E => exact EV.callVX hM hl hH hn hst hcat hd hdd hb9 r1 w1 q
theorem EV.cI {M2 : MI} {pc' idx n b : Nat} {vs : List Value} {K : AH → Prop} (hp : pc + 3 = pc') (hl : LKI (mY M).cls idx M2 n) (hH : mH M2 = []) (hR : mR M2 = none) (hn : vs.length = n) (hst : st0 = vs.reverse ++ .ref b :: st) (hcat : (st.map fun v => v.category).sum ≤ 8) (hd : decode (mC M) pc = .ok (.invokespecial idx, 3))
    (h : CV Γ d M2 (.ref b :: vs) σ K (fun _ _ => False)) (k : ∀ σ1, K σ1 → EV Γ M d pc' L st σ1 Q) : EV Γ M d pc L st0 σ Q := by
  refine EV.wf (fun hw => ?_)
  obtain ⟨d2, hdd, o, σ1, r1, w1, q⟩ := h hw
  cases o with
  | inl v =>
    obtain ⟨rfl, q⟩ := q
    exact EV.callI hp hl hH hR hn hst hcat hd hdd r1 w1 (k σ1 q)
  | inr E => exact q.elim
theorem EV.cIN {M2 : MI} {pc' idx n b : Nat} {vs : List Value} {K : AH → Prop} (hp : pc + 3 = pc') (hl : LKN (mY M).cls idx M2 n) (hH : mH M2 = []) (hR : mR M2 = none) (hn : vs.length = n) (hst : st0 = vs.reverse ++ .ref b :: st) (hcat : (st.map fun v => v.category).sum ≤ 8) (hd : decode (mC M) pc = .ok (.invokespecial idx, 3))
    (h : CV Γ d M2 (.ref b :: vs) σ K (fun _ _ => False)) (k : ∀ σ1, K σ1 → EV Γ M d pc' L st σ1 Q) : EV Γ M d pc L st0 σ Q := by
  refine EV.wf (fun hw => ?_)
  obtain ⟨d2, hdd, o, σ1, r1, w1, q⟩ := h hw
  cases o with
  | inl v =>
    obtain ⟨rfl, q⟩ := q
    exact EV.callIN hp hl hH hR hn hst hcat hd hdd r1 w1 (k σ1 q)
  | inr E => exact q.elim
theorem lookup_hit {x : Int32} {dflt off : Int} {ps : List (Int × Int)} (h : Op.lookupswitch.offset ps dflt x.toInt = off) : Op.lookupswitch.offset ps dflt x.toInt = off := h
end GENR
/-! naming what a step has made -/
theorem EV.nm {Γ : Gm} {M : MI} {d pc : Nat} {L : List (Option Value)} {st : List Value} {Q : Oc → AH → Prop} {E : AH} (k : ∀ τ, τ = E → EV Γ M d pc L st τ Q) : EV Γ M d pc L st E Q := k E rfl
theorem EV.nq {Γ : Gm} {M : MI} {d pc : Nat} {L : List (Option Value)} {st : List Value} {σ : AH} {Q : Oc → AH → Prop} {k n : Nat} (kk : ∀ q τ, q = lo Γ + hc σ → τ = mk σ q k n → EV Γ M d pc L (.ref q :: st) τ Q) : EV Γ M d pc L (.ref (lo Γ + hc σ) :: st) (mk σ (lo Γ + hc σ) k n) Q := kk _ _ rfl rfl
theorem tr_hs {σ τ : AH} (e : hs τ = hs σ) {a : Nat} {x : Option (Nat × Nat)} (w : hs σ a = x) : hs τ a = x := by rw [e]; exact w
theorem tr_gr {σ τ : AH} (e : gr τ = gr σ) {a k : Nat} {x : Option Nat} (w : gr σ a k = x) : gr τ a k = x := by rw [e]; exact w
theorem hs_setI_of {σ τ : AH} {a i : Nat} {x : Int32} (e : τ = setI σ a i x) : hs τ = hs σ := by rw [e]; rfl
theorem hs_setJ_of {σ τ : AH} {a i : Nat} {x : Int64} (e : τ = setJ σ a i x) : hs τ = hs σ := by rw [e]; rfl
theorem hs_setR_of {σ τ : AH} {a i : Nat} {x : Option Nat} (e : τ = setR σ a i x) : hs τ = hs σ := by rw [e]; rfl
theorem hs_setD_of {σ τ : AH} {a i : Nat} {x : UInt64} (e : τ = setD σ a i x) : hs τ = hs σ := by rw [e]; rfl
theorem hs_rowI_of {σ τ : AH} {a : Nat} {f : Nat → Int32} (e : τ = rowI σ a f) : hs τ = hs σ := by rw [e]; rfl
theorem hs_rowJ_of {σ τ : AH} {a : Nat} {f : Nat → Int64} (e : τ = rowJ σ a f) : hs τ = hs σ := by rw [e]; rfl
theorem gr_setI_of {σ τ : AH} {a i : Nat} {x : Int32} (e : τ = setI σ a i x) : gr τ = gr σ := by rw [e]; rfl
theorem gr_setJ_of {σ τ : AH} {a i : Nat} {x : Int64} (e : τ = setJ σ a i x) : gr τ = gr σ := by rw [e]; rfl
theorem gr_setD_of {σ τ : AH} {a i : Nat} {x : UInt64} (e : τ = setD σ a i x) : gr τ = gr σ := by rw [e]; rfl
theorem gr_rowI_of {σ τ : AH} {a : Nat} {f : Nat → Int32} (e : τ = rowI σ a f) : gr τ = gr σ := by rw [e]; rfl
theorem gr_rowJ_of {σ τ : AH} {a : Nat} {f : Nat → Int64} (e : τ = rowJ σ a f) : gr τ = gr σ := by rw [e]; rfl
