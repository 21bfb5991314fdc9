/-! THE LAW: a call of each kind. -/
theorem bFeed (S : StT) (a b c d e : Int32) : (aFeed S a b c d e).1 ≤ 1 := by
  unfold aFeed
  repeat' split
  all_goals exact Nat.le_of_ble_eq_true rfl
theorem bTrim (S : StT) (a : Int32) : (aTrim S a).1 ≤ 1 := by
  unfold aTrim
  repeat' split
  all_goals exact Nat.le_of_ble_eq_true rfl
theorem bWrite (S : StT) (a : Int32) : (aWrite S a).1 ≤ 3 := by
  unfold aWrite
  repeat' split
  all_goals exact Nat.le_of_ble_eq_true rfl
theorem bOut (S : StT) (a : Int32) : (aOut S a).1 ≤ 1 := by
  unfold aOut
  repeat' split
  all_goals exact Nat.le_of_ble_eq_true rfl
theorem bEnd (S : StT) (a : Int32) : (aEnd S a).1 ≤ 1 := by
  unfold aEnd
  repeat' split
  all_goals exact Nat.le_of_ble_eq_true rfl
theorem bSingle (S : StT) (a : Int32) : (aSingle S a).1 ≤ 2 := by
  unfold aSingle
  repeat' split
  all_goals exact Nat.le_of_ble_eq_true rfl
theorem bSubs (S : StT) (a b : Int32) : (aSubs S a b).1 ≤ 2 := by
  unfold aSubs
  repeat' split
  all_goals exact Nat.le_of_ble_eq_true rfl
theorem bRel (S : StT) (a : Int32) : (aRel S a).1 ≤ 2 := by
  unfold aRel
  repeat' split
  all_goals exact Nat.le_of_ble_eq_true rfl
theorem bQ (S : StT) (a : Int32) (v : (Nat → Bool) → Int32) : (aQ S a v).1 ≤ 2 := by
  unfold aQ
  repeat' split
  all_goals exact Nat.le_of_ble_eq_true rfl
theorem bQE (S : StT) (a b : Int32) (v : (Nat → Bool) → Int32) : (aQE S a b v).1 ≤ 2 := by
  unfold aQE
  repeat' split
  all_goals exact Nat.le_of_ble_eq_true rfl
theorem bQ2 (S : StT) (a b : Int32) (v : (Nat → Bool) → (Nat → Bool) → Int32) : (aQ2 S a b v).1 ≤ 2 := by
  unfold aQ2
  repeat' split
  all_goals exact Nat.le_of_ble_eq_true rfl
theorem bQF (S : StT) (a : Int32) (v : (Nat → Bool) → Int32) : (aQF S a v).1 ≤ 2 := by
  unfold aQF
  repeat' split
  all_goals exact Nat.le_of_ble_eq_true rfl
theorem bSetAt (S : StT) (a b : Int32) : (aSetAt S a b).1 ≤ 2 := by
  unfold aSetAt
  repeat' split
  all_goals exact Nat.le_of_ble_eq_true rfl
theorem bSetC (S : StT) (a b : Int32) : (aSetC S a b).1 ≤ 2 := by
  unfold aSetC
  repeat' split
  all_goals exact Nat.le_of_ble_eq_true rfl
theorem bOne (o : Nat) (S : StT) (a : Int32) : (aOne o S a).1 ≤ 3 := by
  unfold aOne
  repeat' split
  all_goals exact Nat.le_of_ble_eq_true rfl
theorem bTwo4 (o : Nat) (S : StT) (a b : Int32) : (aTwo o S a b).1 ≤ 4 := by
  unfold aTwo
  repeat' split
  all_goals exact Nat.le_of_ble_eq_true rfl
theorem bTwo3 (o : Nat) (S : StT) (a b : Int32) (h : ¬ isDv o) : (aTwo o S a b).1 ≤ 3 := by
  unfold aTwo
  split
  · exact Nat.le_of_ble_eq_true rfl
  · split
    · exact Nat.le_of_ble_eq_true rfl
    · split
      · exact Nat.le_of_ble_eq_true rfl
      · rw [if_neg (by rw [bd_false.mpr (fun z => h z.1)]; decide)]
        exact Nat.le_of_ble_eq_true rfl
theorem bChange (S : StT) (a b : Int32) : (aChange S a b).1 ≤ 3 := by
  unfold aChange
  repeat' split
  all_goals exact Nat.le_of_ble_eq_true rfl
theorem bCost (S : StT) (a b c : Int32) : (aCost S a b c).1 ≤ 3 := by
  unfold aCost
  repeat' split
  all_goals exact Nat.le_of_ble_eq_true rfl
theorem bEnum (S : StT) (a b c : Int32) : (aEnum S a b c).1 ≤ 3 := by
  unfold aEnum
  repeat' split
  all_goals exact Nat.le_of_ble_eq_true rfl
theorem bEval (S : StT) (R0 : RS) : (aEval S R0).1 ≤ 3 := by
  cases R0 with
  | inl e => exact Nat.le_of_ble_eq_true rfl
  | inr x =>
    show (if tkd (sT S) (sTL S) x.1 = 11 then (if sN S = 200 then (2, 0, stE S (-1)) else aRun S (exe (sF S) x.2 0 (fun _ => zf))) else (1, 0, stE S (nI x.1)) : AnsT).1 ≤ 3
    split
    · split
      · exact Nat.le_of_ble_eq_true rfl
      · cases exe (sF S) x.2 0 (fun _ => zf) with
        | none => exact Nat.le_of_ble_eq_true rfl
        | some S1 => exact Nat.le_of_ble_eq_true rfl
    · exact Nat.le_of_ble_eq_true rfl
theorem b2i_01 (b : Bool) : b2i b = 0 ∨ b2i b = 1 := by cases b <;> simp [b2i]
theorem boQ (S : StT) (a : Int32) (v : (Nat → Bool) → Int32) (h : ∀ F, v F = 0 ∨ v F = 1) : (aQ S a v).2.1 = 0 ∨ (aQ S a v).2.1 = 1 := by
  unfold aQ
  split
  · exact Or.inl rfl
  · split
    · exact Or.inl rfl
    · exact h _
theorem boQ2 (S : StT) (a b : Int32) (v : (Nat → Bool) → (Nat → Bool) → Int32) (h : ∀ F G, v F G = 0 ∨ v F G = 1) : (aQ2 S a b v).2.1 = 0 ∨ (aQ2 S a b v).2.1 = 1 := by
  unfold aQ2
  split
  · exact Or.inl rfl
  · split
    · exact Or.inl rfl
    · exact h _ _
theorem vHas_01 (x : Int32) (F : Nat → Bool) : vHas x F = 0 ∨ vHas x F = 1 := by
  unfold vHas
  split
  · exact b2i_01 _
  · exact Or.inl rfl
theorem ixs1 {i n : Nat} (h : i + 6 ≤ n) (hn : n ≤ 3072) : IX (nI i + 1) n (i + 1) := by
  rw [show nI i + 1 = nI (i + 1) from nI_add i 1]
  exact IXn (by omega) (by omega)
theorem ixs2 {i n : Nat} (h : i + 6 ≤ n) (hn : n ≤ 3072) : IX (nI i + 2) n (i + 2) := by
  rw [show nI i + 2 = nI (i + 2) from nI_add i 2]
  exact IXn (by omega) (by omega)
theorem ixs3 {i n : Nat} (h : i + 6 ≤ n) (hn : n ≤ 3072) : IX (nI i + 3) n (i + 3) := by
  rw [show nI i + 3 = nI (i + 3) from nI_add i 3]
  exact IXn (by omega) (by omega)
theorem ixs4 {i n : Nat} (h : i + 6 ≤ n) (hn : n ≤ 3072) : IX (nI i + 4) n (i + 4) := by
  rw [show nI i + 4 = nI (i + 4) from nI_add i 4]
  exact IXn (by omega) (by omega)
theorem ixs5 {i n : Nat} (h : i + 6 ≤ n) (hn : n ≤ 3072) : IX (nI i + 5) n (i + 5) := by
  rw [show nI i + 5 = nI (i + 5) from nI_add i 5]
  exact IXn (by omega) (by omega)
/-- behind a call: the next round of the loop -/
def NXT (Γ : Gm) (ad mad : Nat → Nat) (sc n oa od : Nat) (g : Nat → Int32) (X Y i : Nat) (Q : Oc → AH → Prop) : Prop := ∀ (S' : StT) (σ' : AH), LT Γ ad mad sc n oa od g S' S' (X + 8) (Y + 300) σ' → EV Γ ML_law 200 2703 [some (.ref sc), some (.ref (ad 0)), some (.ref (mad 0)), some (.ref oa), some (.ref od), some (.int (nI i)), none, none, none] [] σ' Q
section LAWC
variable {Γ : Gm} {σ : AH} {ad mad : Nat → Nat} {sc n oa od i : Nat} {g : Nat → Int32} {S : StT} {X Y : Nat} {Q : Oc → AH → Prop}
theorem law_224 (h : LT Γ ad mad sc n oa od g S S X Y σ) (hi : i + 6 ≤ n) (hn : n ≤ 3072) (k : NXT Γ ad mad sc n oa od g X Y i Q) : EV Γ ML_law 200 224 [some (.ref sc), some (.ref (ad 0)), some (.ref (mad 0)), some (.ref oa), some (.ref od), some (.int (nI i)), none, none, none] [] σ Q := by
  have e := h.giS
  refine gL_law_224 ⟨n, h.hsS, i + 1, ixs1 hi hn, i + 2, ixs2 hi hn, i + 3, ixs3 hi hn, i + 4, ixs4 hi hn, i + 5, ixs5 hi hn, ?_⟩
  rw [e]
  have bA : (aFeed S (g (i + 1)) (g (i + 2)) (g (i + 3)) (g (i + 4)) (g (i + 5))).1 ≤ 1 := bFeed _ _ _ _ _ _
  refine ql_call (A := aFeed S (g (i + 1)) (g (i + 2)) (g (i + 3)) (g (i + 4)) (g (i + 5))) (eL_feed (wr_std h (fun own c w R => feed_R R (by omega)) bA ct_feed)) (fun σ5 h5 go => ?_) (by omega)
  refine ⟨n, h5.hsS, i + 1, ixs1 hi hn, i + 2, ixs2 hi hn, i + 3, ixs3 hi hn, i + 4, ixs4 hi hn, i + 5, ixs5 hi hn, ?_⟩
  rw [h5.giS]
  exact lt_fin h5 go (by omega) (fun own c R => mfeed_C R (by omega)) (fun σ1 h1 => k _ σ1 h1) (by omega)
theorem law_328 (h : LT Γ ad mad sc n oa od g S S X Y σ) (hi : i + 6 ≤ n) (hn : n ≤ 3072) (k : NXT Γ ad mad sc n oa od g X Y i Q) : EV Γ ML_law 200 328 [some (.ref sc), some (.ref (ad 0)), some (.ref (mad 0)), some (.ref oa), some (.ref od), some (.int (nI i)), none, none, none] [] σ Q := by
  have e := h.giS
  refine gL_law_328 ⟨n, h.hsS, i + 1, ixs1 hi hn, ?_⟩
  rw [e]
  have bA : (aTrim S (g (i + 1))).1 ≤ 1 := bTrim _ _
  refine ql_call (A := aTrim S (g (i + 1))) (eL_trim (wr_std h (fun own c w R => trim_R R (by omega)) bA ct_trim)) (fun σ5 h5 go => ?_) (by omega)
  refine ⟨n, h5.hsS, i + 1, ixs1 hi hn, ?_⟩
  rw [h5.giS]
  exact lt_fin h5 go (by omega) (fun own c R => mtrim_C R (by omega)) (fun σ1 h1 => k _ σ1 h1) (by omega)
theorem law_441 (h : LT Γ ad mad sc n oa od g S S X Y σ) (hi : i + 6 ≤ n) (hn : n ≤ 3072) (k : NXT Γ ad mad sc n oa od g X Y i Q) : EV Γ ML_law 200 441 [some (.ref sc), some (.ref (ad 0)), some (.ref (mad 0)), some (.ref oa), some (.ref od), some (.int (nI i)), none, none, none] [] σ Q := by
  have e := h.giS
  refine gL_law_441 ⟨n, h.hsS, i + 1, ixs1 hi hn, ?_⟩
  rw [e]
  have bA : (aWrite S (g (i + 1))).1 ≤ 3 := bWrite _ _
  refine ql_call (A := aWrite S (g (i + 1))) (eL_write (wr_std h (fun own c w R => write_R R (by omega)) bA ct_write)) (fun σ5 h5 go => ?_) (by omega)
  refine ⟨n, h5.hsS, i + 1, ixs1 hi hn, ?_⟩
  rw [h5.giS]
  exact lt_fin h5 go (by omega) (fun own c R => mwrite_C R (by omega)) (fun σ1 h1 => k _ σ1 h1) (by omega)
theorem law_497 (h : LT Γ ad mad sc n oa od g S S X Y σ) (hi : i + 6 ≤ n) (hn : n ≤ 3072) (k : NXT Γ ad mad sc n oa od g X Y i Q) : EV Γ ML_law 200 497 [some (.ref sc), some (.ref (ad 0)), some (.ref (mad 0)), some (.ref oa), some (.ref od), some (.int (nI i)), none, none, none] [] σ Q := by
  have e := h.giS
  refine gL_law_497 ⟨n, h.hsS, i + 1, ixs1 hi hn, ?_⟩
  rw [e]
  have bA : (aOut S (g (i + 1))).1 ≤ 1 := bOut _ _
  refine ql_call (A := aOut S (g (i + 1))) (eL_outputByte (wr_std h (fun own c w R => outputByte_R R (by omega)) bA ct_outputByte)) (fun σ5 h5 go => ?_) (by omega)
  refine ⟨n, h5.hsS, i + 1, ixs1 hi hn, ?_⟩
  rw [h5.giS]
  exact lt_fin h5 go (by omega) (fun own c R => moutputByte_C R (by omega)) (fun σ1 h1 => k _ σ1 h1) (by omega)
theorem law_553 (h : LT Γ ad mad sc n oa od g S S X Y σ) (hi : i + 6 ≤ n) (hn : n ≤ 3072) (k : NXT Γ ad mad sc n oa od g X Y i Q) : EV Γ ML_law 200 553 [some (.ref sc), some (.ref (ad 0)), some (.ref (mad 0)), some (.ref oa), some (.ref od), some (.int (nI i)), none, none, none] [] σ Q := by
  have e := h.giS
  refine gL_law_553 ⟨n, h.hsS, i + 1, ixs1 hi hn, ?_⟩
  rw [e]
  have bA : (aSingle S (g (i + 1))).1 ≤ 2 := bSingle _ _
  refine ql_call (A := aSingle S (g (i + 1))) (eL_single (wr_std h (fun own c w R => single_R R (by omega)) bA ct_single)) (fun σ5 h5 go => ?_) (by omega)
  refine ⟨n, h5.hsS, i + 1, ixs1 hi hn, ?_⟩
  rw [h5.giS]
  exact lt_fin h5 go (by omega) (fun own c R => msingle_C R (by omega)) (fun σ1 h1 => k _ σ1 h1) (by omega)
theorem law_609 (h : LT Γ ad mad sc n oa od g S S X Y σ) (hi : i + 6 ≤ n) (hn : n ≤ 3072) (k : NXT Γ ad mad sc n oa od g X Y i Q) : EV Γ ML_law 200 609 [some (.ref sc), some (.ref (ad 0)), some (.ref (mad 0)), some (.ref oa), some (.ref od), some (.int (nI i)), none, none, none] [] σ Q := by
  have e := h.giS
  refine gL_law_609 ⟨n, h.hsS, i + 1, ixs1 hi hn, i + 2, ixs2 hi hn, ?_⟩
  rw [e]
  have bA : (aSubs S (g (i + 1)) (g (i + 2))).1 ≤ 2 := bSubs _ _ _
  refine ql_call (A := aSubs S (g (i + 1)) (g (i + 2))) (eL_subsetsOf (wr_std h (fun own c w R => subsetsOf_R R (by omega)) bA ct_subsetsOf)) (fun σ5 h5 go => ?_) (by omega)
  refine ⟨n, h5.hsS, i + 1, ixs1 hi hn, i + 2, ixs2 hi hn, ?_⟩
  rw [h5.giS]
  exact lt_fin h5 go (by omega) (fun own c R => msubsetsOf_C R (by omega)) (fun σ1 h1 => k _ σ1 h1) (by omega)
theorem law_677 (h : LT Γ ad mad sc n oa od g S S X Y σ) (hi : i + 6 ≤ n) (hn : n ≤ 3072) (k : NXT Γ ad mad sc n oa od g X Y i Q) : EV Γ ML_law 200 677 [some (.ref sc), some (.ref (ad 0)), some (.ref (mad 0)), some (.ref oa), some (.ref od), some (.int (nI i)), none, none, none] [] σ Q := by
  have e := h.giS
  refine gL_law_677 ⟨n, h.hsS, i + 1, ixs1 hi hn, ?_⟩
  rw [e]
  have bA : (aRel S (g (i + 1))).1 ≤ 2 := bRel _ _
  refine ql_call (A := aRel S (g (i + 1))) (eL_release (wr_std h (fun own c w R => release_R R (by omega)) bA ct_release)) (fun σ5 h5 go => ?_) (by omega)
  refine ⟨n, h5.hsS, i + 1, ixs1 hi hn, ?_⟩
  rw [h5.giS]
  exact lt_fin h5 go (by omega) (fun own c R => mrelease_C R (by omega)) (fun σ1 h1 => k _ σ1 h1) (by omega)
theorem law_759 (h : LT Γ ad mad sc n oa od g S S X Y σ) (hi : i + 6 ≤ n) (hn : n ≤ 3072) (k : NXT Γ ad mad sc n oa od g X Y i Q) : EV Γ ML_law 200 759 [some (.ref sc), some (.ref (ad 0)), some (.ref (mad 0)), some (.ref oa), some (.ref od), some (.int (nI i)), none, none, none] [] σ Q := by
  have e := h.giS
  refine gL_law_759 ⟨n, h.hsS, i + 1, ixs1 hi hn, ?_⟩
  rw [e]
  have bA : (aQ S (g (i + 1)) vNod).1 ≤ 2 := bQ _ _ _
  refine ql_call (A := aQ S (g (i + 1)) vNod) (eL_nodesOf (wr_std h (fun own c w R => nodesOf_R R (by omega)) bA ct_nodesOf)) (fun σ5 h5 go => ?_) (by omega)
  refine ⟨n, h5.hsS, i + 1, ixs1 hi hn, ?_⟩
  rw [h5.giS]
  exact lt_fin h5 go (by omega) (fun own c R => mnodesOf_C R (by omega)) (fun σ1 h1 => k _ σ1 h1) (by omega)
theorem law_815 (h : LT Γ ad mad sc n oa od g S S X Y σ) (hi : i + 6 ≤ n) (hn : n ≤ 3072) (k : NXT Γ ad mad sc n oa od g X Y i Q) : EV Γ ML_law 200 815 [some (.ref sc), some (.ref (ad 0)), some (.ref (mad 0)), some (.ref oa), some (.ref od), some (.int (nI i)), none, none, none] [] σ Q := by
  have e := h.giS
  refine gL_law_815 ⟨n, h.hsS, i + 1, ixs1 hi hn, i + 2, ixs2 hi hn, ?_⟩
  rw [e]
  have bA : (aTwo 1 S (g (i + 1)) (g (i + 2))).1 ≤ 3 := bTwo3 _ _ _ _ (by unfold isDv; omega)
  refine ql_call (A := aTwo 1 S (g (i + 1)) (g (i + 2))) (eL_union (wr_std h (fun own c w R => union_C R (by omega)) bA ct_union)) (fun σ5 h5 go => ?_) (by omega)
  refine ⟨n, h5.hsS, i + 1, ixs1 hi hn, i + 2, ixs2 hi hn, ?_⟩
  rw [h5.giS]
  exact lt_fin h5 go (by omega) (fun own c R => munion_C R (by omega)) (fun σ1 h1 => k _ σ1 h1) (by omega)
theorem law_883 (h : LT Γ ad mad sc n oa od g S S X Y σ) (hi : i + 6 ≤ n) (hn : n ≤ 3072) (k : NXT Γ ad mad sc n oa od g X Y i Q) : EV Γ ML_law 200 883 [some (.ref sc), some (.ref (ad 0)), some (.ref (mad 0)), some (.ref oa), some (.ref od), some (.int (nI i)), none, none, none] [] σ Q := by
  have e := h.giS
  refine gL_law_883 ⟨n, h.hsS, i + 1, ixs1 hi hn, i + 2, ixs2 hi hn, ?_⟩
  rw [e]
  have bA : (aTwo 3 S (g (i + 1)) (g (i + 2))).1 ≤ 3 := bTwo3 _ _ _ _ (by unfold isDv; omega)
  refine ql_call (A := aTwo 3 S (g (i + 1)) (g (i + 2))) (eL_intersection (wr_std h (fun own c w R => intersection_C R (by omega)) bA ct_intersection)) (fun σ5 h5 go => ?_) (by omega)
  refine ⟨n, h5.hsS, i + 1, ixs1 hi hn, i + 2, ixs2 hi hn, ?_⟩
  rw [h5.giS]
  exact lt_fin h5 go (by omega) (fun own c R => mintersection_C R (by omega)) (fun σ1 h1 => k _ σ1 h1) (by omega)
theorem law_951 (h : LT Γ ad mad sc n oa od g S S X Y σ) (hi : i + 6 ≤ n) (hn : n ≤ 3072) (k : NXT Γ ad mad sc n oa od g X Y i Q) : EV Γ ML_law 200 951 [some (.ref sc), some (.ref (ad 0)), some (.ref (mad 0)), some (.ref oa), some (.ref od), some (.int (nI i)), none, none, none] [] σ Q := by
  have e := h.giS
  refine gL_law_951 ⟨n, h.hsS, i + 1, ixs1 hi hn, i + 2, ixs2 hi hn, ?_⟩
  rw [e]
  have bA : (aTwo 2 S (g (i + 1)) (g (i + 2))).1 ≤ 3 := bTwo3 _ _ _ _ (by unfold isDv; omega)
  refine ql_call (A := aTwo 2 S (g (i + 1)) (g (i + 2))) (eL_difference (wr_std h (fun own c w R => difference_C R (by omega)) bA ct_difference)) (fun σ5 h5 go => ?_) (by omega)
  refine ⟨n, h5.hsS, i + 1, ixs1 hi hn, i + 2, ixs2 hi hn, ?_⟩
  rw [h5.giS]
  exact lt_fin h5 go (by omega) (fun own c R => mdifference_C R (by omega)) (fun σ1 h1 => k _ σ1 h1) (by omega)
theorem law_1019 (h : LT Γ ad mad sc n oa od g S S X Y σ) (hi : i + 6 ≤ n) (hn : n ≤ 3072) (k : NXT Γ ad mad sc n oa od g X Y i Q) : EV Γ ML_law 200 1019 [some (.ref sc), some (.ref (ad 0)), some (.ref (mad 0)), some (.ref oa), some (.ref od), some (.int (nI i)), none, none, none] [] σ Q := by
  have e := h.giS
  refine gL_law_1019 ⟨n, h.hsS, i + 1, ixs1 hi hn, i + 2, ixs2 hi hn, ?_⟩
  rw [e]
  have bA : (aTwo 4 S (g (i + 1)) (g (i + 2))).1 ≤ 3 := bTwo3 _ _ _ _ (by unfold isDv; omega)
  refine ql_call (A := aTwo 4 S (g (i + 1)) (g (i + 2))) (eL_join (wr_std h (fun own c w R => join_C R (by omega)) bA ct_join)) (fun σ5 h5 go => ?_) (by omega)
  refine ⟨n, h5.hsS, i + 1, ixs1 hi hn, i + 2, ixs2 hi hn, ?_⟩
  rw [h5.giS]
  exact lt_fin h5 go (by omega) (fun own c R => mjoin_C R (by omega)) (fun σ1 h1 => k _ σ1 h1) (by omega)
theorem law_1087 (h : LT Γ ad mad sc n oa od g S S X Y σ) (hi : i + 6 ≤ n) (hn : n ≤ 3072) (k : NXT Γ ad mad sc n oa od g X Y i Q) : EV Γ ML_law 200 1087 [some (.ref sc), some (.ref (ad 0)), some (.ref (mad 0)), some (.ref oa), some (.ref od), some (.int (nI i)), none, none, none] [] σ Q := by
  have e := h.giS
  refine gL_law_1087 ⟨n, h.hsS, i + 1, ixs1 hi hn, i + 2, ixs2 hi hn, ?_⟩
  rw [e]
  have bA : (aTwo 7 S (g (i + 1)) (g (i + 2))).1 ≤ 3 := bTwo3 _ _ _ _ (by unfold isDv; omega)
  refine ql_call (A := aTwo 7 S (g (i + 1)) (g (i + 2))) (eL_meet (wr_std h (fun own c w R => meet_C R (by omega)) bA ct_meet)) (fun σ5 h5 go => ?_) (by omega)
  refine ⟨n, h5.hsS, i + 1, ixs1 hi hn, i + 2, ixs2 hi hn, ?_⟩
  rw [h5.giS]
  exact lt_fin h5 go (by omega) (fun own c R => mmeet_C R (by omega)) (fun σ1 h1 => k _ σ1 h1) (by omega)
theorem law_1155 (h : LT Γ ad mad sc n oa od g S S X Y σ) (hi : i + 6 ≤ n) (hn : n ≤ 3072) (k : NXT Γ ad mad sc n oa od g X Y i Q) : EV Γ ML_law 200 1155 [some (.ref sc), some (.ref (ad 0)), some (.ref (mad 0)), some (.ref oa), some (.ref od), some (.int (nI i)), none, none, none] [] σ Q := by
  have e := h.giS
  refine gL_law_1155 ⟨n, h.hsS, i + 1, ixs1 hi hn, i + 2, ixs2 hi hn, ?_⟩
  rw [e]
  have bA : (aTwo 5 S (g (i + 1)) (g (i + 2))).1 ≤ 4 := bTwo4 _ _ _ _
  refine ql_call (A := aTwo 5 S (g (i + 1)) (g (i + 2))) (eL_quotient (wr_std h (fun own c w R => quotient_C R (by omega)) bA ct_quotient)) (fun σ5 h5 go => ?_) (by omega)
  refine ⟨n, h5.hsS, i + 1, ixs1 hi hn, i + 2, ixs2 hi hn, ?_⟩
  rw [h5.giS]
  exact lt_fin h5 go (by omega) (fun own c R => mquotient_C R (by omega)) (fun σ1 h1 => k _ σ1 h1) (by omega)
theorem law_1223 (h : LT Γ ad mad sc n oa od g S S X Y σ) (hi : i + 6 ≤ n) (hn : n ≤ 3072) (k : NXT Γ ad mad sc n oa od g X Y i Q) : EV Γ ML_law 200 1223 [some (.ref sc), some (.ref (ad 0)), some (.ref (mad 0)), some (.ref oa), some (.ref od), some (.int (nI i)), none, none, none] [] σ Q := by
  have e := h.giS
  refine gL_law_1223 ⟨n, h.hsS, i + 1, ixs1 hi hn, i + 2, ixs2 hi hn, ?_⟩
  rw [e]
  have bA : (aTwo 6 S (g (i + 1)) (g (i + 2))).1 ≤ 4 := bTwo4 _ _ _ _
  refine ql_call (A := aTwo 6 S (g (i + 1)) (g (i + 2))) (eL_remainder (wr_std h (fun own c w R => remainder_C R (by omega)) bA ct_remainder)) (fun σ5 h5 go => ?_) (by omega)
  refine ⟨n, h5.hsS, i + 1, ixs1 hi hn, i + 2, ixs2 hi hn, ?_⟩
  rw [h5.giS]
  exact lt_fin h5 go (by omega) (fun own c R => mremainder_C R (by omega)) (fun σ1 h1 => k _ σ1 h1) (by omega)
theorem law_1291 (h : LT Γ ad mad sc n oa od g S S X Y σ) (hi : i + 6 ≤ n) (hn : n ≤ 3072) (k : NXT Γ ad mad sc n oa od g X Y i Q) : EV Γ ML_law 200 1291 [some (.ref sc), some (.ref (ad 0)), some (.ref (mad 0)), some (.ref oa), some (.ref od), some (.int (nI i)), none, none, none] [] σ Q := by
  have e := h.giS
  refine gL_law_1291 ⟨n, h.hsS, i + 1, ixs1 hi hn, i + 2, ixs2 hi hn, ?_⟩
  rw [e]
  have bA : (aTwo 8 S (g (i + 1)) (g (i + 2))).1 ≤ 3 := bTwo3 _ _ _ _ (by unfold isDv; omega)
  refine ql_call (A := aTwo 8 S (g (i + 1)) (g (i + 2))) (eL_supersets (wr_std h (fun own c w R => supersets_C R (by omega)) bA ct_supersets)) (fun σ5 h5 go => ?_) (by omega)
  refine ⟨n, h5.hsS, i + 1, ixs1 hi hn, i + 2, ixs2 hi hn, ?_⟩
  rw [h5.giS]
  exact lt_fin h5 go (by omega) (fun own c R => msupersets_C R (by omega)) (fun σ1 h1 => k _ σ1 h1) (by omega)
theorem law_1359 (h : LT Γ ad mad sc n oa od g S S X Y σ) (hi : i + 6 ≤ n) (hn : n ≤ 3072) (k : NXT Γ ad mad sc n oa od g X Y i Q) : EV Γ ML_law 200 1359 [some (.ref sc), some (.ref (ad 0)), some (.ref (mad 0)), some (.ref oa), some (.ref od), some (.int (nI i)), none, none, none] [] σ Q := by
  have e := h.giS
  refine gL_law_1359 ⟨n, h.hsS, i + 1, ixs1 hi hn, i + 2, ixs2 hi hn, ?_⟩
  rw [e]
  have bA : (aTwo 9 S (g (i + 1)) (g (i + 2))).1 ≤ 3 := bTwo3 _ _ _ _ (by unfold isDv; omega)
  refine ql_call (A := aTwo 9 S (g (i + 1)) (g (i + 2))) (eL_subsets (wr_std h (fun own c w R => subsets_C R (by omega)) bA ct_subsets)) (fun σ5 h5 go => ?_) (by omega)
  refine ⟨n, h5.hsS, i + 1, ixs1 hi hn, i + 2, ixs2 hi hn, ?_⟩
  rw [h5.giS]
  exact lt_fin h5 go (by omega) (fun own c R => msubsets_C R (by omega)) (fun σ1 h1 => k _ σ1 h1) (by omega)
theorem law_1427 (h : LT Γ ad mad sc n oa od g S S X Y σ) (hi : i + 6 ≤ n) (hn : n ≤ 3072) (k : NXT Γ ad mad sc n oa od g X Y i Q) : EV Γ ML_law 200 1427 [some (.ref sc), some (.ref (ad 0)), some (.ref (mad 0)), some (.ref oa), some (.ref od), some (.int (nI i)), none, none, none] [] σ Q := by
  have e := h.giS
  refine gL_law_1427 ⟨n, h.hsS, i + 1, ixs1 hi hn, ?_⟩
  rw [e]
  have bA : (aOne 10 S (g (i + 1))).1 ≤ 3 := bOne _ _ _
  refine ql_call (A := aOne 10 S (g (i + 1))) (eL_maximal (wr_std h (fun own c w R => maximal_C R (by omega)) bA ct_maximal)) (fun σ5 h5 go => ?_) (by omega)
  refine ⟨n, h5.hsS, i + 1, ixs1 hi hn, ?_⟩
  rw [h5.giS]
  exact lt_fin h5 go (by omega) (fun own c R => mmaximal_C R (by omega)) (fun σ1 h1 => k _ σ1 h1) (by omega)
theorem law_1483 (h : LT Γ ad mad sc n oa od g S S X Y σ) (hi : i + 6 ≤ n) (hn : n ≤ 3072) (k : NXT Γ ad mad sc n oa od g X Y i Q) : EV Γ ML_law 200 1483 [some (.ref sc), some (.ref (ad 0)), some (.ref (mad 0)), some (.ref oa), some (.ref od), some (.int (nI i)), none, none, none] [] σ Q := by
  have e := h.giS
  refine gL_law_1483 ⟨n, h.hsS, i + 1, ixs1 hi hn, ?_⟩
  rw [e]
  have bA : (aOne 11 S (g (i + 1))).1 ≤ 3 := bOne _ _ _
  refine ql_call (A := aOne 11 S (g (i + 1))) (eL_minimal (wr_std h (fun own c w R => minimal_C R (by omega)) bA ct_minimal)) (fun σ5 h5 go => ?_) (by omega)
  refine ⟨n, h5.hsS, i + 1, ixs1 hi hn, ?_⟩
  rw [h5.giS]
  exact lt_fin h5 go (by omega) (fun own c R => mminimal_C R (by omega)) (fun σ1 h1 => k _ σ1 h1) (by omega)
theorem law_1539 (h : LT Γ ad mad sc n oa od g S S X Y σ) (hi : i + 6 ≤ n) (hn : n ≤ 3072) (k : NXT Γ ad mad sc n oa od g X Y i Q) : EV Γ ML_law 200 1539 [some (.ref sc), some (.ref (ad 0)), some (.ref (mad 0)), some (.ref oa), some (.ref od), some (.int (nI i)), none, none, none] [] σ Q := by
  have e := h.giS
  refine gL_law_1539 ⟨n, h.hsS, i + 1, ixs1 hi hn, ?_⟩
  rw [e]
  have bA : (aOne 12 S (g (i + 1))).1 ≤ 3 := bOne _ _ _
  refine ql_call (A := aOne 12 S (g (i + 1))) (eL_hitting (wr_std h (fun own c w R => hitting_C R (by omega)) bA ct_hitting)) (fun σ5 h5 go => ?_) (by omega)
  refine ⟨n, h5.hsS, i + 1, ixs1 hi hn, ?_⟩
  rw [h5.giS]
  exact lt_fin h5 go (by omega) (fun own c R => mhitting_C R (by omega)) (fun σ1 h1 => k _ σ1 h1) (by omega)
theorem law_1595 (h : LT Γ ad mad sc n oa od g S S X Y σ) (hi : i + 6 ≤ n) (hn : n ≤ 3072) (k : NXT Γ ad mad sc n oa od g X Y i Q) : EV Γ ML_law 200 1595 [some (.ref sc), some (.ref (ad 0)), some (.ref (mad 0)), some (.ref oa), some (.ref od), some (.int (nI i)), none, none, none] [] σ Q := by
  have e := h.giS
  refine gL_law_1595 ⟨n, h.hsS, i + 1, ixs1 hi hn, ?_⟩
  rw [e]
  have bA : (aOne 13 S (g (i + 1))).1 ≤ 3 := bOne _ _ _
  refine ql_call (A := aOne 13 S (g (i + 1))) (eL_closure (wr_std h (fun own c w R => closure_C R (by omega)) bA ct_closure)) (fun σ5 h5 go => ?_) (by omega)
  refine ⟨n, h5.hsS, i + 1, ixs1 hi hn, ?_⟩
  rw [h5.giS]
  exact lt_fin h5 go (by omega) (fun own c R => mclosure_C R (by omega)) (fun σ1 h1 => k _ σ1 h1) (by omega)
theorem law_1651 (h : LT Γ ad mad sc n oa od g S S X Y σ) (hi : i + 6 ≤ n) (hn : n ≤ 3072) (k : NXT Γ ad mad sc n oa od g X Y i Q) : EV Γ ML_law 200 1651 [some (.ref sc), some (.ref (ad 0)), some (.ref (mad 0)), some (.ref oa), some (.ref od), some (.int (nI i)), none, none, none] [] σ Q := by
  have e := h.giS
  refine gL_law_1651 ⟨n, h.hsS, i + 1, ixs1 hi hn, i + 2, ixs2 hi hn, ?_⟩
  rw [e]
  have bA : (aChange S (g (i + 1)) (g (i + 2))).1 ≤ 3 := bChange _ _ _
  refine ql_call (A := aChange S (g (i + 1)) (g (i + 2))) (eL_change (wr_std h (fun own c w R => change_R R (by omega)) bA ct_change)) (fun σ5 h5 go => ?_) (by omega)
  refine ⟨n, h5.hsS, i + 1, ixs1 hi hn, i + 2, ixs2 hi hn, ?_⟩
  rw [h5.giS]
  exact lt_fin h5 go (by omega) (fun own c R => mchange_C R (by omega)) (fun σ1 h1 => k _ σ1 h1) (by omega)
theorem law_1719 (h : LT Γ ad mad sc n oa od g S S X Y σ) (hi : i + 6 ≤ n) (hn : n ≤ 3072) (k : NXT Γ ad mad sc n oa od g X Y i Q) : EV Γ ML_law 200 1719 [some (.ref sc), some (.ref (ad 0)), some (.ref (mad 0)), some (.ref oa), some (.ref od), some (.int (nI i)), none, none, none] [] σ Q := by
  have e := h.giS
  refine gL_law_1719 ⟨n, h.hsS, i + 1, ixs1 hi hn, i + 2, ixs2 hi hn, i + 3, ixs3 hi hn, ?_⟩
  rw [e]
  have bA : (aCost S (g (i + 1)) (g (i + 2)) (g (i + 3))).1 ≤ 3 := bCost _ _ _ _
  refine ql_call (A := aCost S (g (i + 1)) (g (i + 2)) (g (i + 3))) (eL_withCost (wr_std h (fun own c w R => withCost_R R (by omega)) bA ct_withCost)) (fun σ5 h5 go => ?_) (by omega)
  refine ⟨n, h5.hsS, i + 1, ixs1 hi hn, i + 2, ixs2 hi hn, i + 3, ixs3 hi hn, ?_⟩
  rw [h5.giS]
  exact lt_fin h5 go (by omega) (fun own c R => mwithCost_C R (by omega)) (fun σ1 h1 => k _ σ1 h1) (by omega)
theorem law_1799 (h : LT Γ ad mad sc n oa od g S S X Y σ) (hi : i + 6 ≤ n) (hn : n ≤ 3072) (k : NXT Γ ad mad sc n oa od g X Y i Q) : EV Γ ML_law 200 1799 [some (.ref sc), some (.ref (ad 0)), some (.ref (mad 0)), some (.ref oa), some (.ref od), some (.int (nI i)), none, none, none] [] σ Q := by
  have e := h.giS
  refine gL_law_1799 ⟨n, h.hsS, i + 1, ixs1 hi hn, ?_⟩
  rw [e]
  have bA : (aQ S (g (i + 1)) (fun F => nI (cntF F))).1 ≤ 2 := bQ _ _ _
  refine ql_call (A := aQ S (g (i + 1)) (fun F => nI (cntF F))) (eL_count (wr_std h (fun own c w R => count_R R (by omega)) bA ct_count)) (fun σ5 h5 go => ?_) (by omega)
  refine ⟨n, h5.hsS, i + 1, ixs1 hi hn, ?_⟩
  rw [h5.giS]
  exact lt_fin h5 go (by omega) (fun own c R => mcount_C R (by omega)) (fun σ1 h1 => k _ σ1 h1) (by omega)
theorem law_1855 (h : LT Γ ad mad sc n oa od g S S X Y σ) (hi : i + 6 ≤ n) (hn : n ≤ 3072) (k : NXT Γ ad mad sc n oa od g X Y i Q) : EV Γ ML_law 200 1855 [some (.ref sc), some (.ref (ad 0)), some (.ref (mad 0)), some (.ref oa), some (.ref od), some (.int (nI i)), none, none, none] [] σ Q := by
  have e := h.giS
  refine gL_law_1855 ⟨n, h.hsS, i + 1, ixs1 hi hn, i + 2, ixs2 hi hn, ?_⟩
  rw [e]
  have bA : (aQ S (g (i + 1)) (vSize (g (i + 2)))).1 ≤ 2 := bQ _ _ _
  refine ql_call (A := aQ S (g (i + 1)) (vSize (g (i + 2)))) (eL_countOfSize (wr_std h (fun own c w R => countOfSize_R R (by omega)) bA ct_countOfSize)) (fun σ5 h5 go => ?_) (by omega)
  refine ⟨n, h5.hsS, i + 1, ixs1 hi hn, i + 2, ixs2 hi hn, ?_⟩
  rw [h5.giS]
  exact lt_fin h5 go (by omega) (fun own c R => mcountOfSize_C R (by omega)) (fun σ1 h1 => k _ σ1 h1) (by omega)
theorem law_1923 (h : LT Γ ad mad sc n oa od g S S X Y σ) (hi : i + 6 ≤ n) (hn : n ≤ 3072) (k : NXT Γ ad mad sc n oa od g X Y i Q) : EV Γ ML_law 200 1923 [some (.ref sc), some (.ref (ad 0)), some (.ref (mad 0)), some (.ref oa), some (.ref od), some (.int (nI i)), none, none, none] [] σ Q := by
  have e := h.giS
  refine gL_law_1923 ⟨n, h.hsS, i + 1, ixs1 hi hn, i + 2, ixs2 hi hn, ?_⟩
  rw [e]
  have bA : (aQE S (g (i + 1)) (g (i + 2)) (vWith (ixF (g (i + 2))))).1 ≤ 2 := bQE _ _ _ _
  refine ql_call (A := aQE S (g (i + 1)) (g (i + 2)) (vWith (ixF (g (i + 2))))) (eL_countWith (wr_std h (fun own c w R => countWith_R R (by omega)) bA ct_countWith)) (fun σ5 h5 go => ?_) (by omega)
  refine ⟨n, h5.hsS, i + 1, ixs1 hi hn, i + 2, ixs2 hi hn, ?_⟩
  rw [h5.giS]
  exact lt_fin h5 go (by omega) (fun own c R => mcountWith_C R (by omega)) (fun σ1 h1 => k _ σ1 h1) (by omega)
theorem law_1991 (h : LT Γ ad mad sc n oa od g S S X Y σ) (hi : i + 6 ≤ n) (hn : n ≤ 3072) (k : NXT Γ ad mad sc n oa od g X Y i Q) : EV Γ ML_law 200 1991 [some (.ref sc), some (.ref (ad 0)), some (.ref (mad 0)), some (.ref oa), some (.ref od), some (.int (nI i)), none, none, none] [] σ Q := by
  have e := h.giS
  refine gL_law_1991 ⟨n, h.hsS, i + 1, ixs1 hi hn, i + 2, ixs2 hi hn, ?_⟩
  rw [e]
  have bA : (aQ S (g (i + 1)) (vHas (g (i + 2)))).1 ≤ 2 := bQ S _ _
  refine ql_call (A := aQ S (g (i + 1)) (vHas (g (i + 2)))) (eL_contains (wr_boo h (fun own c w R => contains_R R (by omega)) bA (boQ S _ _ (vHas_01 _)) ct_contains)) (fun σ5 h5 go => ?_) (by omega)
  refine ⟨n, h5.hsS, i + 1, ixs1 hi hn, i + 2, ixs2 hi hn, ?_⟩
  rw [h5.giS]
  exact lt_finB (C := fun x y τ => EV Γ ML_law 200 2057 [some (.ref sc), some (.ref (ad 0)), some (.ref (mad 0)), some (.ref oa), some (.ref od), some (.int (nI i)), none, none, none] [.long x, .long y] τ Q) h5 go (boQ S _ _ (vHas_01 _)) (by omega) (fun own c R => mcontains_C R (by omega)) (fun σ1 h1 => k _ σ1 h1) (fun x σ1 h1 => gL_law_2057 ⟨fun _ => k _ σ1 h1, fun y => absurd ((cmp0 _ _).mpr rfl) y⟩) (by omega)
theorem law_2066 (h : LT Γ ad mad sc n oa od g S S X Y σ) (hi : i + 6 ≤ n) (hn : n ≤ 3072) (k : NXT Γ ad mad sc n oa od g X Y i Q) : EV Γ ML_law 200 2066 [some (.ref sc), some (.ref (ad 0)), some (.ref (mad 0)), some (.ref oa), some (.ref od), some (.int (nI i)), none, none, none] [] σ Q := by
  have e := h.giS
  refine gL_law_2066 ⟨n, h.hsS, i + 1, ixs1 hi hn, i + 2, ixs2 hi hn, ?_⟩
  rw [e]
  have bA : (aQ2 S (g (i + 1)) (g (i + 2)) vEq).1 ≤ 2 := bQ2 S _ _ _
  refine ql_call (A := aQ2 S (g (i + 1)) (g (i + 2)) vEq) (eL_areEqual (wr_boo h (fun own c w R => areEqual_R R (by omega)) bA (boQ2 S _ _ _ (fun _ _ => b2i_01 _)) ct_areEqual)) (fun σ5 h5 go => ?_) (by omega)
  refine ⟨n, h5.hsS, i + 1, ixs1 hi hn, i + 2, ixs2 hi hn, ?_⟩
  rw [h5.giS]
  exact lt_finB (C := fun x y τ => EV Γ ML_law 200 2132 [some (.ref sc), some (.ref (ad 0)), some (.ref (mad 0)), some (.ref oa), some (.ref od), some (.int (nI i)), none, none, none] [.long x, .long y] τ Q) h5 go (boQ2 S _ _ _ (fun _ _ => b2i_01 _)) (by omega) (fun own c R => mareEqual_C R (by omega)) (fun σ1 h1 => k _ σ1 h1) (fun x σ1 h1 => gL_law_2132 ⟨fun _ => k _ σ1 h1, fun y => absurd ((cmp0 _ _).mpr rfl) y⟩) (by omega)
theorem law_2141 (h : LT Γ ad mad sc n oa od g S S X Y σ) (hi : i + 6 ≤ n) (hn : n ≤ 3072) (k : NXT Γ ad mad sc n oa od g X Y i Q) : EV Γ ML_law 200 2141 [some (.ref sc), some (.ref (ad 0)), some (.ref (mad 0)), some (.ref oa), some (.ref od), some (.int (nI i)), none, none, none] [] σ Q := by
  have e := h.giS
  refine gL_law_2141 ⟨n, h.hsS, i + 1, ixs1 hi hn, i + 2, ixs2 hi hn, ?_⟩
  rw [e]
  have bA : (aQ2 S (g (i + 1)) (g (i + 2)) vSub).1 ≤ 2 := bQ2 S _ _ _
  refine ql_call (A := aQ2 S (g (i + 1)) (g (i + 2)) vSub) (eL_isPartOf (wr_boo h (fun own c w R => isPartOf_R R (by omega)) bA (boQ2 S _ _ _ (fun _ _ => b2i_01 _)) ct_isPartOf)) (fun σ5 h5 go => ?_) (by omega)
  refine ⟨n, h5.hsS, i + 1, ixs1 hi hn, i + 2, ixs2 hi hn, ?_⟩
  rw [h5.giS]
  exact lt_finB (C := fun x y τ => EV Γ ML_law 200 2207 [some (.ref sc), some (.ref (ad 0)), some (.ref (mad 0)), some (.ref oa), some (.ref od), some (.int (nI i)), none, none, none] [.long x, .long y] τ Q) h5 go (boQ2 S _ _ _ (fun _ _ => b2i_01 _)) (by omega) (fun own c R => misPartOf_C R (by omega)) (fun σ1 h1 => k _ σ1 h1) (fun x σ1 h1 => gL_law_2207 ⟨fun _ => k _ σ1 h1, fun y => absurd ((cmp0 _ _).mpr rfl) y⟩) (by omega)
theorem law_2216 (h : LT Γ ad mad sc n oa od g S S X Y σ) (hi : i + 6 ≤ n) (hn : n ≤ 3072) (k : NXT Γ ad mad sc n oa od g X Y i Q) : EV Γ ML_law 200 2216 [some (.ref sc), some (.ref (ad 0)), some (.ref (mad 0)), some (.ref oa), some (.ref od), some (.int (nI i)), none, none, none] [] σ Q := by
  have e := h.giS
  refine gL_law_2216 ⟨n, h.hsS, i + 1, ixs1 hi hn, i + 2, ixs2 hi hn, ?_⟩
  rw [e]
  have bA : (aSetAt S (g (i + 1)) (g (i + 2))).1 ≤ 2 := bSetAt _ _ _
  refine ql_call (A := aSetAt S (g (i + 1)) (g (i + 2))) (eL_setAt (wr_std h (fun own c w R => setAt_R R (by omega)) bA ct_setAt)) (fun σ5 h5 go => ?_) (by omega)
  refine ⟨n, h5.hsS, i + 1, ixs1 hi hn, i + 2, ixs2 hi hn, ?_⟩
  rw [h5.giS]
  exact lt_fin h5 go (by omega) (fun own c R => msetAt_C R (by omega)) (fun σ1 h1 => k _ σ1 h1) (by omega)
theorem law_2284 (h : LT Γ ad mad sc n oa od g S S X Y σ) (hi : i + 6 ≤ n) (hn : n ≤ 3072) (k : NXT Γ ad mad sc n oa od g X Y i Q) : EV Γ ML_law 200 2284 [some (.ref sc), some (.ref (ad 0)), some (.ref (mad 0)), some (.ref oa), some (.ref od), some (.int (nI i)), none, none, none] [] σ Q := by
  have e := h.giS
  refine gL_law_2284 ⟨n, h.hsS, i + 1, ixs1 hi hn, i + 2, ixs2 hi hn, ?_⟩
  rw [e]
  have bA : (aQ S (g (i + 1)) (vIdx (g (i + 2)))).1 ≤ 2 := bQ _ _ _
  refine ql_call (A := aQ S (g (i + 1)) (vIdx (g (i + 2)))) (eL_indexOf (wr_std h (fun own c w R => indexOf_R R (by omega)) bA ct_indexOf)) (fun σ5 h5 go => ?_) (by omega)
  refine ⟨n, h5.hsS, i + 1, ixs1 hi hn, i + 2, ixs2 hi hn, ?_⟩
  rw [h5.giS]
  exact lt_fin h5 go (by omega) (fun own c R => mindexOf_C R (by omega)) (fun σ1 h1 => k _ σ1 h1) (by omega)
theorem law_2352 (h : LT Γ ad mad sc n oa od g S S X Y σ) (hi : i + 6 ≤ n) (hn : n ≤ 3072) (k : NXT Γ ad mad sc n oa od g X Y i Q) : EV Γ ML_law 200 2352 [some (.ref sc), some (.ref (ad 0)), some (.ref (mad 0)), some (.ref oa), some (.ref od), some (.int (nI i)), none, none, none] [] σ Q := by
  have e := h.giS
  refine gL_law_2352 ⟨n, h.hsS, i + 1, ixs1 hi hn, i + 2, ixs2 hi hn, ?_⟩
  rw [e]
  have bA : (aSetC S (g (i + 1)) (g (i + 2))).1 ≤ 2 := bSetC _ _ _
  refine ql_call (A := aSetC S (g (i + 1)) (g (i + 2))) (eL_setCost (wr_std h (fun own c w R => setCost_R R (by omega)) bA ct_setCost)) (fun σ5 h5 go => ?_) (by omega)
  refine ⟨n, h5.hsS, i + 1, ixs1 hi hn, i + 2, ixs2 hi hn, ?_⟩
  rw [h5.giS]
  exact lt_fin h5 go (by omega) (fun own c R => msetCost_C R (by omega)) (fun σ1 h1 => k _ σ1 h1) (by omega)
theorem law_2420 (h : LT Γ ad mad sc n oa od g S S X Y σ) (hi : i + 6 ≤ n) (hn : n ≤ 3072) (k : NXT Γ ad mad sc n oa od g X Y i Q) : EV Γ ML_law 200 2420 [some (.ref sc), some (.ref (ad 0)), some (.ref (mad 0)), some (.ref oa), some (.ref od), some (.int (nI i)), none, none, none] [] σ Q := by
  have e := h.giS
  refine gL_law_2420 ⟨n, h.hsS, i + 1, ixs1 hi hn, ?_⟩
  rw [e]
  have bA : (aQF S (g (i + 1)) (vLeast (sK S))).1 ≤ 2 := bQF _ _ _
  refine ql_call (A := aQF S (g (i + 1)) (vLeast (sK S))) (eL_leastCost (wr_std h (fun own c w R => leastCost_R R (by omega)) bA ct_leastCost)) (fun σ5 h5 go => ?_) (by omega)
  refine ⟨n, h5.hsS, i + 1, ixs1 hi hn, ?_⟩
  rw [h5.giS]
  exact lt_fin h5 go (by omega) (fun own c R => mleastCost_C R (by omega)) (fun σ1 h1 => k _ σ1 h1) (by omega)
theorem law_2553 (h : LT Γ ad mad sc n oa od g S S X Y σ) (hi : i + 6 ≤ n) (hn : n ≤ 3072) (k : NXT Γ ad mad sc n oa od g X Y i Q) : EV Γ ML_law 200 2553 [some (.ref sc), some (.ref (ad 0)), some (.ref (mad 0)), some (.ref oa), some (.ref od), some (.int (nI i)), none, none, none] [] σ Q := by
  have e := h.giS
  refine gL_law_2553 ⟨n, h.hsS, i + 1, ixs1 hi hn, i + 2, ixs2 hi hn, i + 3, ixs3 hi hn, ?_⟩
  rw [e]
  have bA : (aEnum S (g (i + 1)) (g (i + 2)) (g (i + 3))).1 ≤ 3 := bEnum _ _ _ _
  refine ql_call (A := aEnum S (g (i + 1)) (g (i + 2)) (g (i + 3))) (eL_enumerate (wr_std h (fun own c w R => enumerate_R R (by omega)) bA ct_enumerate)) (fun σ5 h5 go => ?_) (by omega)
  refine ⟨n, h5.hsS, i + 1, ixs1 hi hn, i + 2, ixs2 hi hn, i + 3, ixs3 hi hn, ?_⟩
  rw [h5.giS]
  exact lt_fin h5 go (by omega) (fun own c R => menumerate_C R (by omega)) (fun σ1 h1 => k _ σ1 h1) (by omega)
theorem law_2633 (h : LT Γ ad mad sc n oa od g S S X Y σ) (hi : i + 6 ≤ n) (hn : n ≤ 3072) (k : NXT Γ ad mad sc n oa od g X Y i Q) : EV Γ ML_law 200 2633 [some (.ref sc), some (.ref (ad 0)), some (.ref (mad 0)), some (.ref oa), some (.ref od), some (.int (nI i)), none, none, none] [] σ Q := by
  have e := h.giS
  refine gL_law_2633 ⟨n, h.hsS, i + 1, ixs1 hi hn, ?_⟩
  rw [e]
  have bA : (aEnd S (g (i + 1))).1 ≤ 1 := bEnd _ _
  refine ql_call (A := aEnd S (g (i + 1))) (eL_enumerated (wr_std h (fun own c w R => enumerated_R R (by omega)) bA ct_enumerated)) (fun σ5 h5 go => ?_) (by omega)
  refine ⟨n, h5.hsS, i + 1, ixs1 hi hn, ?_⟩
  rw [h5.giS]
  exact lt_fin h5 go (by omega) (fun own c R => menumerated_C R (by omega)) (fun σ1 h1 => k _ σ1 h1) (by omega)
theorem law_428 (h : LT Γ ad mad sc n oa od g S S X Y σ) (hi : i + 6 ≤ n) (hn : n ≤ 3072) (k : NXT Γ ad mad sc n oa od g X Y i Q) : EV Γ ML_law 200 428 [some (.ref sc), some (.ref (ad 0)), some (.ref (mad 0)), some (.ref oa), some (.ref od), some (.int (nI i)), none, none, none] [] σ Q := by
  refine gL_law_428 ⟨h.co, lt_c (A := (0, sE S, S)) h (fun own c w R => errorPosition_R R) (fun _ σ1 h1 => ⟨h1.mo, lt_m (A := (0, sE S, S)) h1 (fun own c R => merrorPosition_C R) (fun σ2 h2 _ _ => ⟨fun _ => k _ σ2 h2, fun y => absurd rfl y⟩) (by omega)⟩) (fun y => absurd rfl y) (by omega)⟩
theorem law_733 (h : LT Γ ad mad sc n oa od g S S X Y σ) (hi : i + 6 ≤ n) (hn : n ≤ 3072) (k : NXT Γ ad mad sc n oa od g X Y i Q) : EV Γ ML_law 200 733 [some (.ref sc), some (.ref (ad 0)), some (.ref (mad 0)), some (.ref oa), some (.ref od), some (.int (nI i)), none, none, none] [] σ Q := by
  refine gL_law_733 ⟨h.co, lt_c (A := (0, nI (sN S), S)) h (fun own c w R => createdCount_R R) (fun _ σ1 h1 => ⟨h1.mo, lt_m (A := (0, nI (sN S), S)) h1 (fun own c R => mcreated_R R) (fun σ2 h2 _ _ => ⟨fun _ => k _ σ2 h2, fun y => absurd rfl y⟩) (by omega)⟩) (fun y => absurd rfl y) (by omega)⟩
theorem law_746 (h : LT Γ ad mad sc n oa od g S S X Y σ) (hi : i + 6 ≤ n) (hn : n ≤ 3072) (k : NXT Γ ad mad sc n oa od g X Y i Q) : EV Γ ML_law 200 746 [some (.ref sc), some (.ref (ad 0)), some (.ref (mad 0)), some (.ref oa), some (.ref od), some (.int (nI i)), none, none, none] [] σ Q := by
  refine gL_law_746 ⟨h.co, lt_c (A := (0, vNodeAll S, S)) h (fun own c w R => nodeCount_R R) (fun _ σ1 h1 => ⟨h1.mo, lt_m (A := (0, vNodeAll S, S)) h1 (fun own c R => mnodeCount_C R (by omega)) (fun σ2 h2 _ _ => ⟨fun _ => k _ σ2 h2, fun y => absurd rfl y⟩) (by omega)⟩) (fun y => absurd rfl y) (by omega)⟩
theorem law_2689 (h : LT Γ ad mad sc n oa od g S S X Y σ) (hi : i + 6 ≤ n) (hn : n ≤ 3072) (k : NXT Γ ad mad sc n oa od g X Y i Q) : EV Γ ML_law 200 2689 [some (.ref sc), some (.ref (ad 0)), some (.ref (mad 0)), some (.ref oa), some (.ref od), some (.int (nI i)), none, none, none] [] σ Q := by
  refine gL_law_2689 ⟨h.co, ?_⟩
  obtain ⟨W, own, c, w, cm, R, M, hsc, hoa, hod, B⟩ := h
  refine CALL.mono (d2 := 130) (digest_R R) (by omega) (fun v σ1 W1 q => ?_) (fun E σ1 W1 q => absurd q.1 (by simp))
  obtain ⟨q1, q2⟩ := q
  have h1 := lt_stepC W1 M hsc hoa hod B q2
  refine ⟨_, Sum.inl.inj q1, h1.mo, ?_⟩
  obtain ⟨-, own1, c1, w1, cm1, R1, M1, hsc1, hoa1, hod1, B1⟩ := h1
  refine CALL.mono (d2 := 130) (mdigest_C M1 (by omega)) (by omega) (fun v2 σ2 W2 q => ?_) (fun E σ2 W2 q => absurd q.1 (by simp))
  obtain ⟨q3, q4⟩ := q
  obtain ⟨h2, -⟩ := lt_stepM W1 W2 R1 hsc1 hoa1 hod1 B1 q4
  exact ⟨_, Sum.inl.inj q3, fun _ => k _ σ2 h2, fun y => absurd ((cmp0 _ _).mpr rfl) y⟩
theorem law_384 (h : LT Γ ad mad sc n oa od g S S X Y σ) (hi : i + 6 ≤ n) (hn : n ≤ 3072) (k : NXT Γ ad mad sc n oa od g X Y i Q) : EV Γ ML_law 200 384 [some (.ref sc), some (.ref (ad 0)), some (.ref (mad 0)), some (.ref oa), some (.ref od), some (.int (nI i)), none, none, none] [] σ Q := by
  have J : ∃ R0, (∀ own c w, RepC Γ σ own ad S c w → CLM Γ 130 MX8_evaluate [.ref (ad 0)] σ own ad c w [IAE, ISE, ARE] (aEval S R0)) ∧ ∀ τ own c, RepM Γ τ own mad S c → CMN Γ 130 MX9_evaluate [.ref (mad 0)] τ own mad c (aEval S R0) := by
    obtain ⟨R0, h1, h2, h3⟩ := J_all (Γ := Γ) (rd := ad 10) (tx := ad 1) (fm := ad 3) (kn := ad 11) (vl := ad 12) (mo := mad 0) (tx2 := mad 1) (pg := mad 11) (ir := mad 3) (t := sT S) (tl := sTL S) (n := sN S) (rel := sR S)
    exact ⟨R0, fun own c w R => evaluate_R R h1 h3 (by omega), fun τ own c R => mevaluate_C R h2 h3 (by omega)⟩
  obtain ⟨R0, hC, hM⟩ := J
  have bA : (aEval S R0).1 ≤ 3 := bEval S R0
  refine gL_law_384 ?_
  refine ql_call (A := aEval S R0) (eL_evaluate (wr_std h hC bA ct_evaluate)) (fun σ5 h5 go => ?_) (by omega)
  exact lt_fin h5 go (by omega) (hM σ5) (fun σ1 h1 => k _ σ1 h1) (by omega)
/-- what the small method of the mean leaves -/
def QLD (Γ : Gm) (ad mad : Nat → Nat) (sc n oa od : Nat) (g : Nat → Int32) (S : StT) (X Y a : Nat) (v : UInt64) (oc : Oc) (σ' : AH) : Prop := oc = .inl (some (.int (nI a))) ∧ (a = 0 → gd σ' od 0 = v) ∧ LT Γ ad mad sc n oa od g S S (X + 8) (Y + 300) σ'
theorem law_2476 (h : LT Γ ad mad sc n oa od g S S X Y σ) (hi : i + 6 ≤ n) (hn : n ≤ 3072) (k : NXT Γ ad mad sc n oa od g X Y i Q) : EV Γ ML_law 200 2476 [some (.ref sc), some (.ref (ad 0)), some (.ref (mad 0)), some (.ref oa), some (.ref od), some (.int (nI i)), none, none, none] [] σ Q := by
  have e := h.giS
  refine gL_law_2476 ⟨n, h.hsS, i + 1, ixs1 hi hn, ?_⟩
  rw [e]
  have bA : (aQF S (g (i + 1)) (fun _ => 0)).1 ≤ 2 := bQF _ _ _
  generalize hA : (aQF S (g (i + 1)) (fun _ => 0)).1 = a at bA
  generalize hv' : vMean (sK S) (sF S (ixF (g (i + 1)))) = vm
  have H1 : RUN Γ 150 ML_meanCost [.ref (ad 0), .int (g (i + 1)), .ref od] σ (QLD Γ ad mad sc n oa od g S X Y a vm) := by
    refine eL_meanCost ⟨h.co, ?_⟩
    obtain ⟨W, own, c, w, cm, R, M, hsc, hoa, hod, B⟩ := h
    refine CALL.mono (d2 := 130) (meanCost_R R (by omega)) (by omega) (fun v σ1 W1 q => ?_) (fun E σ1 W1 q => ?_)
    · obtain ⟨q1, q2⟩ := q
      have h1 := lt_stepC W1 M hsc hoa hod B q2
      rw [hA, hv'] at q1
      by_cases z : a = 0
      · rw [if_pos z] at q1
        refine ⟨vm, Sum.inl.inj q1, 1, h1.hsD, 0, ix01, fun σ8 e8 => ?_⟩
        obtain ⟨h8, g8⟩ := lt_setD h1 e8
        exact ⟨by rw [z]; rfl, fun _ => g8, h8⟩
      · rw [if_neg z] at q1
        exact absurd q1 (by simp)
    · obtain ⟨q1, q2⟩ := q
      have h1 := lt_stepC W1 M hsc hoa hod B q2
      rw [hA] at q1
      by_cases z : a = 0
      · rw [if_pos z] at q1
        exact absurd q1 (by simp)
      · rw [if_neg z] at q1
        rw [Sum.inr.inj q1]
        refine ⟨nI a, ?_, rfl, fun y => absurd y z, h1⟩
        have := ct_meanCost (a - 1) (by omega)
        rw [show a - 1 + 1 = a by omega] at this
        exact this
  refine CALL.mono H1 (by omega) (fun v σ5 W5 q => ?_) (fun E σ5 W5 q => absurd q.1 (by simp))
  obtain ⟨q1, go, h5⟩ := q
  refine ⟨nI a, Sum.inl.inj q1, n, h5.hsS, i + 1, ixs1 hi hn, ?_⟩
  rw [h5.giS]
  refine ⟨h5.mo, ?_⟩
  obtain ⟨W5', own, c, w, cm, R, M, hsc, hoa, hod, B⟩ := h5
  refine CALL.mono (d2 := 130) (mmeanCost_C M (by omega)) (by omega) (fun v2 σ11 W11 q => ?_) (fun E σ11 W11 q => ?_)
  · obtain ⟨⟨q2, x, q3, q4⟩, q5⟩ := q
    obtain ⟨h11, -, gd11⟩ := lt_stepM W5' W11 R hsc hoa hod B q5
    rw [hA] at q2 q4
    rw [hv'] at q4
    refine ⟨x, Sum.inl.inj q3, h11.mo, thr_call h11.mo ?_ (by omega)⟩
    refine ⟨fun _ => ⟨fun _ => k _ σ11 h11, fun z => ⟨1, h11.hsD, 0, ix01, ?_⟩⟩, fun y => absurd q2 y⟩
    have z0 := (nI_eq (b := 0) (by omega) (by omega)).mp z
    rw [gd11, go z0, q4 z0]
    exact ⟨fun _ => k _ σ11 h11, fun y => ⟨fun y2 => absurd y2 y, fun _ => ⟨fun _ => k _ σ11 h11, fun y2 => absurd y2 y⟩⟩⟩
  · obtain ⟨⟨q2, x, q3, q4⟩, q5⟩ := q
    exact absurd q3 (by simp)
end LAWC
