/-! THE LAW's small methods: below, cell, has, choose. A long is a family of sets of six elements: wb x. -/
theorem wb_lt {x : Int64} {m : Nat} (h : wb x m = true) : m < 64 := by
  rcases Nat.lt_or_ge m 64 with c | c
  · exact c
  · rw [wb_ge x c] at h; exact absurd h (by decide)
theorem smod_c : ∀ k, k < 64 → ((lN k).toBitVec.smod 64#64).toNat = k := by decide +kernel
theorem sar_b (x : Int64) {k : Nat} (hk : k < 64) : wb (x >>> (Int32.toInt64 (nI k) &&& 63)) 0 = wb x k := by
  have e := smod_c k hk
  rw [wb_c k hk]
  unfold wb
  rw [Int64.toBitVec_shiftRight]
  show (x.toBitVec.sshiftRight ((lN k).toBitVec.smod 64#64).toNat).getLsbD 0 = _
  rw [e, BitVec.getLsbD_sshiftRight]
  simp [hk]
theorem and1 (y : Int64) : y &&& 1 = 1 ↔ wb y 0 = true := by
  constructor
  · intro h
    have := w_and y 1 0
    rw [h, w_1] at this
    simpa using this.symm
  · intro h
    apply wb_ext
    intro i hi
    rw [w_and, w_1]
    by_cases c : i = 0
    · subst c; rw [h]; rfl
    · simp [c]
section LAWBITS
variable {Γ : Gm} {d : Nat} {σ : AH}
theorem has_L {x : Int64} {m : Nat} (hm : m < 64) : RI Γ d ML_has [.long x, .int (nI m)] σ (fun r σ' => σ' = σ ∧ r = b2i (wb x m)) := by
  refine eL_has ⟨fun h => ⟨_, rfl, rfl, ?_⟩, fun h => ⟨_, rfl, rfl, ?_⟩⟩
  · have h2 : ¬ wb x m = true := fun z => h ((cmp0 _ _).mpr ((and1 _).mpr ((sar_b x hm).trans z)))
    rw [Bool.not_eq_true] at h2
    rw [h2]; rfl
  · rw [← sar_b x hm, (and1 _).mp ((cmp0 _ _).mp h)]; rfl
theorem below_L {x : Int32} {n : Nat} (h0 : 0 < n) (hn : n < 2 ^ 31) : RI Γ d ML_below [.int x, .int (nI n)] σ (fun r σ' => σ' = σ ∧ ∃ k, k < n ∧ r = nI k) := by
  obtain ⟨j, hj, e⟩ := pk_andE x (m := 2147483647) 31 (by decide)
  refine eL_below ⟨nI_ne0 h0 hn, _, rfl, rfl, j % n, Nat.mod_lt _ h0, ?_⟩
  rw [e]; exact pk_rem hj h0 hn
theorem cell_L {sc n k : Nat} (h : hs σ sc = some (28, n)) (hk : k < 2 ^ 31) (hn : n < 2 ^ 31) : RI Γ d ML_cell [.ref sc, .int (nI k)] σ (fun _ σ' => σ' = σ) :=
  eL_cell ⟨n, h, fun _ => ⟨_, rfl, rfl⟩, fun y => ⟨k, IXn (by
    rcases Nat.lt_or_ge k n with c | c
    · exact c
    · exact absurd ((nI_leI hn hk).mpr c) y) hk, _, rfl, rfl⟩⟩
/-- how many sets -/
noncomputable def wc (x : Int64) : Nat := ctp (fun m => wb x m = true) 64
theorem wc_0 : wc 0 = 0 := ctp_none (fun m _ h => by rw [w_zero] at h; exact absurd h (by decide))
theorem w_put (x : Int64) {p : Nat} (hp : p < 64) {i : Nat} (hi : i < 64) : wb (x ||| bitL p) i = (wb x i || decide (i = p)) := by rw [w_or, w_bitL hp hi]
theorem wc_put (x : Int64) {p : Nat} (hp : p < 64) : wc (x ||| bitL p) ≤ wc x + 1 := by
  have h := ctp_upd (P := fun m => wb x m = true) (Q := fun m => wb (x ||| bitL p) m = true) (n := 64) (a := p) hp (fun i hi hn => by rw [w_put x hp hi, decide_eq_false hn, Bool.or_false])
  unfold wc
  split at h <;> split at h <;> omega
theorem choose_15 {k N : Nat} (hN : N ≤ 6) {M : Nat} (hM : k + M = N) : ∀ (x : Int64) (v : Int32), wc x ≤ k → EV Γ ML_choose d 15 [none, some (.long x), none, some (.int (nI N)), some (.int v), some (.int (nI k))] [] σ (fun oc σ' => ∃ r : Int64, oc = .inl (some (.long r)) ∧ σ' = σ ∧ wc r ≤ 6) := by
  induction M generalizing k with
  | zero =>
    intro x v h
    refine gL_choose_15 ⟨fun _ => ⟨x, rfl, rfl, by omega⟩, fun y => absurd ((nI_leI (by omega) (by omega)).mpr (by omega)) y⟩
  | succ M ih =>
    intro x v h
    refine gL_choose_15 ⟨fun y => absurd ((nI_leI (by omega) (by omega)).mp y) (by omega), fun _ => ?_⟩
    obtain ⟨p, hp, e⟩ := pk_andE ((((v * 1103515245) + 12345) >>> 16)) (m := 63) 6 (by decide)
    rw [e, nI_1]
    exact ih (k := k + 1) (by omega) (x ||| bitL p) _ (Nat.le_trans (wc_put x hp) (by omega))
theorem choose_L {v : Int32} (hd : 1 ≤ d) : RJ Γ d ML_choose [.int v] σ (fun r σ' => σ' = σ ∧ wc r ≤ 6) := by
  refine eL_choose (CI.of (d2 := 0) (below_L (n := 7) (by omega) (by omega)) (by omega) (fun r σ1 _ h => ?_))
  obtain ⟨rfl, k, hk, rfl⟩ := h
  exact choose_15 (k := 0) (N := k) (by omega) (Nat.zero_add k) 0 v (by rw [wc_0]; omega)
end LAWBITS
