/-! ROWS of the law: how its small methods turn what is thrown into a code. -/
def EXI (i : Nat) (E : String) : Prop := i ≠ 0 ∧ Cond.classLink RL i E ∈ AW ∧ E ∈ excs ∧ Cond.castable E E ∈ lw_tbl
theorem ex_13 : EXI 13 ISE := ⟨by decide, aw_of (i := 318) (by decide +kernel) (by decide +kernel), by decide +kernel, List.mem_of_getElem? (i := 325) (by decide +kernel)⟩
theorem ex_19 : EXI 19 IAE := ⟨by decide, aw_of (i := 397) (by decide +kernel) (by decide +kernel), by decide +kernel, List.mem_of_getElem? (i := 404) (by decide +kernel)⟩
theorem ex_25 : EXI 25 ARE := ⟨by decide, aw_of (i := 420) (by decide +kernel) (by decide +kernel), by decide +kernel, List.mem_of_getElem? (i := 440) (by decide +kernel)⟩
theorem ex_30 : EXI 30 IOB := ⟨by decide, aw_of (i := 760) (by decide +kernel) (by decide +kernel), by decide +kernel, List.mem_of_getElem? (i := 794) (by decide +kernel)⟩
theorem ex_32 : EXI 32 NSE := ⟨by decide, aw_of (i := 779) (by decide +kernel) (by decide +kernel), by decide +kernel, List.mem_of_getElem? (i := 809) (by decide +kernel)⟩
theorem ct_mk {M : MI} {pc : Nat} {E : String} {v : Int32} (pre : List (Nat × Nat × Nat × Nat)) (x : Nat × Nat × Nat × Nat) (suf : List (Nat × Nat × Nat × Nat)) (h1 : mH M = pre ++ x :: suf) (hcls : (mY M).cls = RL) (h2 : ∀ z ∈ pre, ∃ nm, EXI z.2.2.2 nm ∧ E ≠ nm) (h3 : EXI x.2.2.2 E) (h4 : covers ⟨x.1, x.2.1, x.2.2.1, x.2.2.2⟩ pc = true) (h5 : HND M x.2.2.1 v) : CAT M pc E v := by
  refine ⟨pre, x, suf, h1, fun z hz => ?_, h3.2.2.1, h4, h3.1, by rw [hcls]; exact h3.2.1, h3.2.2.2, h5⟩
  obtain ⟨nm, a, b⟩ := h2 z hz
  exact ⟨a.1, nm, by rw [hcls]; exact a.2.1, a.2.2.1, b⟩
theorem ct_feed : ∀ i, i < 1 → CAT ML_feed 11 ([ISE].getD i "") (nI (i + 1)) := by
  intro i hi
  match i, hi with
  | 0, _ => exact ct_mk [] (0, 16, 19, 13) [] rfl rfl (fun _ h => absurd h List.not_mem_nil) ex_13 (by decide) (Or.inr ⟨7, 1, by decide, dL_feed_19, dL_feed_21, by decide, dL_feed_22⟩)
theorem ct_trim : ∀ i, i < 1 → CAT ML_trim 4 ([IAE].getD i "") (nI (i + 1)) := by
  intro i hi
  match i, hi with
  | 0, _ => exact ct_mk [] (0, 9, 12, 19) [] rfl rfl (fun _ h => absurd h List.not_mem_nil) ex_19 (by decide) (Or.inl ⟨3, 1, by decide, dL_trim_12, dL_trim_13, by decide, dL_trim_14⟩)
theorem ct_evaluate : ∀ i, i < 3 → CAT ML_evaluate 3 ([IAE, ISE, ARE].getD i "") (nI (i + 1)) := by
  intro i hi
  match i, hi with
  | 0, _ => exact ct_mk [] (0, 8, 11, 19) [(0, 8, 14, 13), (0, 8, 17, 25)] rfl rfl (fun _ h => absurd h List.not_mem_nil) ex_19 (by decide) (Or.inl ⟨2, 1, by decide, dL_evaluate_11, dL_evaluate_12, by decide, dL_evaluate_13⟩)
  | 1, _ => exact ct_mk [(0, 8, 11, 19)] (0, 8, 14, 13) [(0, 8, 17, 25)] rfl rfl (List.forall_mem_cons.mpr ⟨⟨IAE, ex_19, by decide +kernel⟩, fun _ h => absurd h List.not_mem_nil⟩) ex_13 (by decide) (Or.inl ⟨2, 2, by decide, dL_evaluate_14, dL_evaluate_15, by decide, dL_evaluate_16⟩)
  | 2, _ => exact ct_mk [(0, 8, 11, 19), (0, 8, 14, 13)] (0, 8, 17, 25) [] rfl rfl (List.forall_mem_cons.mpr ⟨⟨IAE, ex_19, by decide +kernel⟩, List.forall_mem_cons.mpr ⟨⟨ISE, ex_13, by decide +kernel⟩, fun _ h => absurd h List.not_mem_nil⟩⟩) ex_25 (by decide) (Or.inl ⟨2, 3, by decide, dL_evaluate_17, dL_evaluate_18, by decide, dL_evaluate_19⟩)
theorem ct_write : ∀ i, i < 3 → CAT ML_write 4 ([IOB, NSE, ARE].getD i "") (nI (i + 1)) := by
  intro i hi
  match i, hi with
  | 0, _ => exact ct_mk [] (0, 9, 12, 30) [(0, 9, 15, 32), (0, 9, 18, 25)] rfl rfl (fun _ h => absurd h List.not_mem_nil) ex_30 (by decide) (Or.inl ⟨3, 1, by decide, dL_write_12, dL_write_13, by decide, dL_write_14⟩)
  | 1, _ => exact ct_mk [(0, 9, 12, 30)] (0, 9, 15, 32) [(0, 9, 18, 25)] rfl rfl (List.forall_mem_cons.mpr ⟨⟨IOB, ex_30, by decide +kernel⟩, fun _ h => absurd h List.not_mem_nil⟩) ex_32 (by decide) (Or.inl ⟨3, 2, by decide, dL_write_15, dL_write_16, by decide, dL_write_17⟩)
  | 2, _ => exact ct_mk [(0, 9, 12, 30), (0, 9, 15, 32)] (0, 9, 18, 25) [] rfl rfl (List.forall_mem_cons.mpr ⟨⟨IOB, ex_30, by decide +kernel⟩, List.forall_mem_cons.mpr ⟨⟨NSE, ex_32, by decide +kernel⟩, fun _ h => absurd h List.not_mem_nil⟩⟩) ex_25 (by decide) (Or.inl ⟨3, 3, by decide, dL_write_18, dL_write_19, by decide, dL_write_20⟩)
theorem ct_outputByte : ∀ i, i < 1 → CAT ML_outputByte 4 ([IOB].getD i "") (nI (i + 1)) := by
  intro i hi
  match i, hi with
  | 0, _ => exact ct_mk [] (0, 9, 12, 30) [] rfl rfl (fun _ h => absurd h List.not_mem_nil) ex_30 (by decide) (Or.inl ⟨3, 1, by decide, dL_outputByte_12, dL_outputByte_13, by decide, dL_outputByte_14⟩)
theorem ct_single : ∀ i, i < 2 → CAT ML_single 4 ([IAE, ISE].getD i "") (nI (i + 1)) := by
  intro i hi
  match i, hi with
  | 0, _ => exact ct_mk [] (0, 9, 12, 19) [(0, 9, 15, 13)] rfl rfl (fun _ h => absurd h List.not_mem_nil) ex_19 (by decide) (Or.inl ⟨3, 1, by decide, dL_single_12, dL_single_13, by decide, dL_single_14⟩)
  | 1, _ => exact ct_mk [(0, 9, 12, 19)] (0, 9, 15, 13) [] rfl rfl (List.forall_mem_cons.mpr ⟨⟨IAE, ex_19, by decide +kernel⟩, fun _ h => absurd h List.not_mem_nil⟩) ex_13 (by decide) (Or.inl ⟨3, 2, by decide, dL_single_15, dL_single_16, by decide, dL_single_17⟩)
theorem ct_subsetsOf : ∀ i, i < 2 → CAT ML_subsetsOf 5 ([IAE, ISE].getD i "") (nI (i + 1)) := by
  intro i hi
  match i, hi with
  | 0, _ => exact ct_mk [] (0, 10, 13, 19) [(0, 10, 17, 13)] rfl rfl (fun _ h => absurd h List.not_mem_nil) ex_19 (by decide) (Or.inr ⟨4, 1, by decide, dL_subsetsOf_13, dL_subsetsOf_15, by decide, dL_subsetsOf_16⟩)
  | 1, _ => exact ct_mk [(0, 10, 13, 19)] (0, 10, 17, 13) [] rfl rfl (List.forall_mem_cons.mpr ⟨⟨IAE, ex_19, by decide +kernel⟩, fun _ h => absurd h List.not_mem_nil⟩) ex_13 (by decide) (Or.inr ⟨4, 2, by decide, dL_subsetsOf_17, dL_subsetsOf_19, by decide, dL_subsetsOf_20⟩)
theorem ct_release : ∀ i, i < 2 → CAT ML_release 4 ([IOB, NSE].getD i "") (nI (i + 1)) := by
  intro i hi
  match i, hi with
  | 0, _ => exact ct_mk [] (0, 9, 12, 30) [(0, 9, 15, 32)] rfl rfl (fun _ h => absurd h List.not_mem_nil) ex_30 (by decide) (Or.inl ⟨3, 1, by decide, dL_release_12, dL_release_13, by decide, dL_release_14⟩)
  | 1, _ => exact ct_mk [(0, 9, 12, 30)] (0, 9, 15, 32) [] rfl rfl (List.forall_mem_cons.mpr ⟨⟨IOB, ex_30, by decide +kernel⟩, fun _ h => absurd h List.not_mem_nil⟩) ex_32 (by decide) (Or.inl ⟨3, 2, by decide, dL_release_15, dL_release_16, by decide, dL_release_17⟩)
theorem ct_nodesOf : ∀ i, i < 2 → CAT ML_nodesOf 4 ([IOB, NSE].getD i "") (nI (i + 1)) := by
  intro i hi
  match i, hi with
  | 0, _ => exact ct_mk [] (0, 9, 12, 30) [(0, 9, 15, 32)] rfl rfl (fun _ h => absurd h List.not_mem_nil) ex_30 (by decide) (Or.inl ⟨3, 1, by decide, dL_nodesOf_12, dL_nodesOf_13, by decide, dL_nodesOf_14⟩)
  | 1, _ => exact ct_mk [(0, 9, 12, 30)] (0, 9, 15, 32) [] rfl rfl (List.forall_mem_cons.mpr ⟨⟨IOB, ex_30, by decide +kernel⟩, fun _ h => absurd h List.not_mem_nil⟩) ex_32 (by decide) (Or.inl ⟨3, 2, by decide, dL_nodesOf_15, dL_nodesOf_16, by decide, dL_nodesOf_17⟩)
theorem ct_union : ∀ i, i < 3 → CAT ML_union 5 ([IOB, NSE, ISE].getD i "") (nI (i + 1)) := by
  intro i hi
  match i, hi with
  | 0, _ => exact ct_mk [] (0, 10, 13, 30) [(0, 10, 17, 32), (0, 10, 21, 13)] rfl rfl (fun _ h => absurd h List.not_mem_nil) ex_30 (by decide) (Or.inr ⟨4, 1, by decide, dL_union_13, dL_union_15, by decide, dL_union_16⟩)
  | 1, _ => exact ct_mk [(0, 10, 13, 30)] (0, 10, 17, 32) [(0, 10, 21, 13)] rfl rfl (List.forall_mem_cons.mpr ⟨⟨IOB, ex_30, by decide +kernel⟩, fun _ h => absurd h List.not_mem_nil⟩) ex_32 (by decide) (Or.inr ⟨4, 2, by decide, dL_union_17, dL_union_19, by decide, dL_union_20⟩)
  | 2, _ => exact ct_mk [(0, 10, 13, 30), (0, 10, 17, 32)] (0, 10, 21, 13) [] rfl rfl (List.forall_mem_cons.mpr ⟨⟨IOB, ex_30, by decide +kernel⟩, List.forall_mem_cons.mpr ⟨⟨NSE, ex_32, by decide +kernel⟩, fun _ h => absurd h List.not_mem_nil⟩⟩) ex_13 (by decide) (Or.inr ⟨4, 3, by decide, dL_union_21, dL_union_23, by decide, dL_union_24⟩)
theorem ct_intersection : ∀ i, i < 3 → CAT ML_intersection 5 ([IOB, NSE, ISE].getD i "") (nI (i + 1)) := by
  intro i hi
  match i, hi with
  | 0, _ => exact ct_mk [] (0, 10, 13, 30) [(0, 10, 17, 32), (0, 10, 21, 13)] rfl rfl (fun _ h => absurd h List.not_mem_nil) ex_30 (by decide) (Or.inr ⟨4, 1, by decide, dL_intersection_13, dL_intersection_15, by decide, dL_intersection_16⟩)
  | 1, _ => exact ct_mk [(0, 10, 13, 30)] (0, 10, 17, 32) [(0, 10, 21, 13)] rfl rfl (List.forall_mem_cons.mpr ⟨⟨IOB, ex_30, by decide +kernel⟩, fun _ h => absurd h List.not_mem_nil⟩) ex_32 (by decide) (Or.inr ⟨4, 2, by decide, dL_intersection_17, dL_intersection_19, by decide, dL_intersection_20⟩)
  | 2, _ => exact ct_mk [(0, 10, 13, 30), (0, 10, 17, 32)] (0, 10, 21, 13) [] rfl rfl (List.forall_mem_cons.mpr ⟨⟨IOB, ex_30, by decide +kernel⟩, List.forall_mem_cons.mpr ⟨⟨NSE, ex_32, by decide +kernel⟩, fun _ h => absurd h List.not_mem_nil⟩⟩) ex_13 (by decide) (Or.inr ⟨4, 3, by decide, dL_intersection_21, dL_intersection_23, by decide, dL_intersection_24⟩)
theorem ct_difference : ∀ i, i < 3 → CAT ML_difference 5 ([IOB, NSE, ISE].getD i "") (nI (i + 1)) := by
  intro i hi
  match i, hi with
  | 0, _ => exact ct_mk [] (0, 10, 13, 30) [(0, 10, 17, 32), (0, 10, 21, 13)] rfl rfl (fun _ h => absurd h List.not_mem_nil) ex_30 (by decide) (Or.inr ⟨4, 1, by decide, dL_difference_13, dL_difference_15, by decide, dL_difference_16⟩)
  | 1, _ => exact ct_mk [(0, 10, 13, 30)] (0, 10, 17, 32) [(0, 10, 21, 13)] rfl rfl (List.forall_mem_cons.mpr ⟨⟨IOB, ex_30, by decide +kernel⟩, fun _ h => absurd h List.not_mem_nil⟩) ex_32 (by decide) (Or.inr ⟨4, 2, by decide, dL_difference_17, dL_difference_19, by decide, dL_difference_20⟩)
  | 2, _ => exact ct_mk [(0, 10, 13, 30), (0, 10, 17, 32)] (0, 10, 21, 13) [] rfl rfl (List.forall_mem_cons.mpr ⟨⟨IOB, ex_30, by decide +kernel⟩, List.forall_mem_cons.mpr ⟨⟨NSE, ex_32, by decide +kernel⟩, fun _ h => absurd h List.not_mem_nil⟩⟩) ex_13 (by decide) (Or.inr ⟨4, 3, by decide, dL_difference_21, dL_difference_23, by decide, dL_difference_24⟩)
theorem ct_join : ∀ i, i < 3 → CAT ML_join 5 ([IOB, NSE, ISE].getD i "") (nI (i + 1)) := by
  intro i hi
  match i, hi with
  | 0, _ => exact ct_mk [] (0, 10, 13, 30) [(0, 10, 17, 32), (0, 10, 21, 13)] rfl rfl (fun _ h => absurd h List.not_mem_nil) ex_30 (by decide) (Or.inr ⟨4, 1, by decide, dL_join_13, dL_join_15, by decide, dL_join_16⟩)
  | 1, _ => exact ct_mk [(0, 10, 13, 30)] (0, 10, 17, 32) [(0, 10, 21, 13)] rfl rfl (List.forall_mem_cons.mpr ⟨⟨IOB, ex_30, by decide +kernel⟩, fun _ h => absurd h List.not_mem_nil⟩) ex_32 (by decide) (Or.inr ⟨4, 2, by decide, dL_join_17, dL_join_19, by decide, dL_join_20⟩)
  | 2, _ => exact ct_mk [(0, 10, 13, 30), (0, 10, 17, 32)] (0, 10, 21, 13) [] rfl rfl (List.forall_mem_cons.mpr ⟨⟨IOB, ex_30, by decide +kernel⟩, List.forall_mem_cons.mpr ⟨⟨NSE, ex_32, by decide +kernel⟩, fun _ h => absurd h List.not_mem_nil⟩⟩) ex_13 (by decide) (Or.inr ⟨4, 3, by decide, dL_join_21, dL_join_23, by decide, dL_join_24⟩)
theorem ct_meet : ∀ i, i < 3 → CAT ML_meet 5 ([IOB, NSE, ISE].getD i "") (nI (i + 1)) := by
  intro i hi
  match i, hi with
  | 0, _ => exact ct_mk [] (0, 10, 13, 30) [(0, 10, 17, 32), (0, 10, 21, 13)] rfl rfl (fun _ h => absurd h List.not_mem_nil) ex_30 (by decide) (Or.inr ⟨4, 1, by decide, dL_meet_13, dL_meet_15, by decide, dL_meet_16⟩)
  | 1, _ => exact ct_mk [(0, 10, 13, 30)] (0, 10, 17, 32) [(0, 10, 21, 13)] rfl rfl (List.forall_mem_cons.mpr ⟨⟨IOB, ex_30, by decide +kernel⟩, fun _ h => absurd h List.not_mem_nil⟩) ex_32 (by decide) (Or.inr ⟨4, 2, by decide, dL_meet_17, dL_meet_19, by decide, dL_meet_20⟩)
  | 2, _ => exact ct_mk [(0, 10, 13, 30), (0, 10, 17, 32)] (0, 10, 21, 13) [] rfl rfl (List.forall_mem_cons.mpr ⟨⟨IOB, ex_30, by decide +kernel⟩, List.forall_mem_cons.mpr ⟨⟨NSE, ex_32, by decide +kernel⟩, fun _ h => absurd h List.not_mem_nil⟩⟩) ex_13 (by decide) (Or.inr ⟨4, 3, by decide, dL_meet_21, dL_meet_23, by decide, dL_meet_24⟩)
theorem ct_quotient : ∀ i, i < 4 → CAT ML_quotient 5 ([IOB, NSE, ISE, ARE].getD i "") (nI (i + 1)) := by
  intro i hi
  match i, hi with
  | 0, _ => exact ct_mk [] (0, 10, 13, 30) [(0, 10, 17, 32), (0, 10, 21, 13), (0, 10, 25, 25)] rfl rfl (fun _ h => absurd h List.not_mem_nil) ex_30 (by decide) (Or.inr ⟨4, 1, by decide, dL_quotient_13, dL_quotient_15, by decide, dL_quotient_16⟩)
  | 1, _ => exact ct_mk [(0, 10, 13, 30)] (0, 10, 17, 32) [(0, 10, 21, 13), (0, 10, 25, 25)] rfl rfl (List.forall_mem_cons.mpr ⟨⟨IOB, ex_30, by decide +kernel⟩, fun _ h => absurd h List.not_mem_nil⟩) ex_32 (by decide) (Or.inr ⟨4, 2, by decide, dL_quotient_17, dL_quotient_19, by decide, dL_quotient_20⟩)
  | 2, _ => exact ct_mk [(0, 10, 13, 30), (0, 10, 17, 32)] (0, 10, 21, 13) [(0, 10, 25, 25)] rfl rfl (List.forall_mem_cons.mpr ⟨⟨IOB, ex_30, by decide +kernel⟩, List.forall_mem_cons.mpr ⟨⟨NSE, ex_32, by decide +kernel⟩, fun _ h => absurd h List.not_mem_nil⟩⟩) ex_13 (by decide) (Or.inr ⟨4, 3, by decide, dL_quotient_21, dL_quotient_23, by decide, dL_quotient_24⟩)
  | 3, _ => exact ct_mk [(0, 10, 13, 30), (0, 10, 17, 32), (0, 10, 21, 13)] (0, 10, 25, 25) [] rfl rfl (List.forall_mem_cons.mpr ⟨⟨IOB, ex_30, by decide +kernel⟩, List.forall_mem_cons.mpr ⟨⟨NSE, ex_32, by decide +kernel⟩, List.forall_mem_cons.mpr ⟨⟨ISE, ex_13, by decide +kernel⟩, fun _ h => absurd h List.not_mem_nil⟩⟩⟩) ex_25 (by decide) (Or.inr ⟨4, 4, by decide, dL_quotient_25, dL_quotient_27, by decide, dL_quotient_28⟩)
theorem ct_remainder : ∀ i, i < 4 → CAT ML_remainder 5 ([IOB, NSE, ISE, ARE].getD i "") (nI (i + 1)) := by
  intro i hi
  match i, hi with
  | 0, _ => exact ct_mk [] (0, 10, 13, 30) [(0, 10, 17, 32), (0, 10, 21, 13), (0, 10, 25, 25)] rfl rfl (fun _ h => absurd h List.not_mem_nil) ex_30 (by decide) (Or.inr ⟨4, 1, by decide, dL_remainder_13, dL_remainder_15, by decide, dL_remainder_16⟩)
  | 1, _ => exact ct_mk [(0, 10, 13, 30)] (0, 10, 17, 32) [(0, 10, 21, 13), (0, 10, 25, 25)] rfl rfl (List.forall_mem_cons.mpr ⟨⟨IOB, ex_30, by decide +kernel⟩, fun _ h => absurd h List.not_mem_nil⟩) ex_32 (by decide) (Or.inr ⟨4, 2, by decide, dL_remainder_17, dL_remainder_19, by decide, dL_remainder_20⟩)
  | 2, _ => exact ct_mk [(0, 10, 13, 30), (0, 10, 17, 32)] (0, 10, 21, 13) [(0, 10, 25, 25)] rfl rfl (List.forall_mem_cons.mpr ⟨⟨IOB, ex_30, by decide +kernel⟩, List.forall_mem_cons.mpr ⟨⟨NSE, ex_32, by decide +kernel⟩, fun _ h => absurd h List.not_mem_nil⟩⟩) ex_13 (by decide) (Or.inr ⟨4, 3, by decide, dL_remainder_21, dL_remainder_23, by decide, dL_remainder_24⟩)
  | 3, _ => exact ct_mk [(0, 10, 13, 30), (0, 10, 17, 32), (0, 10, 21, 13)] (0, 10, 25, 25) [] rfl rfl (List.forall_mem_cons.mpr ⟨⟨IOB, ex_30, by decide +kernel⟩, List.forall_mem_cons.mpr ⟨⟨NSE, ex_32, by decide +kernel⟩, List.forall_mem_cons.mpr ⟨⟨ISE, ex_13, by decide +kernel⟩, fun _ h => absurd h List.not_mem_nil⟩⟩⟩) ex_25 (by decide) (Or.inr ⟨4, 4, by decide, dL_remainder_25, dL_remainder_27, by decide, dL_remainder_28⟩)
theorem ct_supersets : ∀ i, i < 3 → CAT ML_supersets 5 ([IOB, NSE, ISE].getD i "") (nI (i + 1)) := by
  intro i hi
  match i, hi with
  | 0, _ => exact ct_mk [] (0, 10, 13, 30) [(0, 10, 17, 32), (0, 10, 21, 13)] rfl rfl (fun _ h => absurd h List.not_mem_nil) ex_30 (by decide) (Or.inr ⟨4, 1, by decide, dL_supersets_13, dL_supersets_15, by decide, dL_supersets_16⟩)
  | 1, _ => exact ct_mk [(0, 10, 13, 30)] (0, 10, 17, 32) [(0, 10, 21, 13)] rfl rfl (List.forall_mem_cons.mpr ⟨⟨IOB, ex_30, by decide +kernel⟩, fun _ h => absurd h List.not_mem_nil⟩) ex_32 (by decide) (Or.inr ⟨4, 2, by decide, dL_supersets_17, dL_supersets_19, by decide, dL_supersets_20⟩)
  | 2, _ => exact ct_mk [(0, 10, 13, 30), (0, 10, 17, 32)] (0, 10, 21, 13) [] rfl rfl (List.forall_mem_cons.mpr ⟨⟨IOB, ex_30, by decide +kernel⟩, List.forall_mem_cons.mpr ⟨⟨NSE, ex_32, by decide +kernel⟩, fun _ h => absurd h List.not_mem_nil⟩⟩) ex_13 (by decide) (Or.inr ⟨4, 3, by decide, dL_supersets_21, dL_supersets_23, by decide, dL_supersets_24⟩)
theorem ct_subsets : ∀ i, i < 3 → CAT ML_subsets 5 ([IOB, NSE, ISE].getD i "") (nI (i + 1)) := by
  intro i hi
  match i, hi with
  | 0, _ => exact ct_mk [] (0, 10, 13, 30) [(0, 10, 17, 32), (0, 10, 21, 13)] rfl rfl (fun _ h => absurd h List.not_mem_nil) ex_30 (by decide) (Or.inr ⟨4, 1, by decide, dL_subsets_13, dL_subsets_15, by decide, dL_subsets_16⟩)
  | 1, _ => exact ct_mk [(0, 10, 13, 30)] (0, 10, 17, 32) [(0, 10, 21, 13)] rfl rfl (List.forall_mem_cons.mpr ⟨⟨IOB, ex_30, by decide +kernel⟩, fun _ h => absurd h List.not_mem_nil⟩) ex_32 (by decide) (Or.inr ⟨4, 2, by decide, dL_subsets_17, dL_subsets_19, by decide, dL_subsets_20⟩)
  | 2, _ => exact ct_mk [(0, 10, 13, 30), (0, 10, 17, 32)] (0, 10, 21, 13) [] rfl rfl (List.forall_mem_cons.mpr ⟨⟨IOB, ex_30, by decide +kernel⟩, List.forall_mem_cons.mpr ⟨⟨NSE, ex_32, by decide +kernel⟩, fun _ h => absurd h List.not_mem_nil⟩⟩) ex_13 (by decide) (Or.inr ⟨4, 3, by decide, dL_subsets_21, dL_subsets_23, by decide, dL_subsets_24⟩)
theorem ct_maximal : ∀ i, i < 3 → CAT ML_maximal 4 ([IOB, NSE, ISE].getD i "") (nI (i + 1)) := by
  intro i hi
  match i, hi with
  | 0, _ => exact ct_mk [] (0, 9, 12, 30) [(0, 9, 15, 32), (0, 9, 18, 13)] rfl rfl (fun _ h => absurd h List.not_mem_nil) ex_30 (by decide) (Or.inl ⟨3, 1, by decide, dL_maximal_12, dL_maximal_13, by decide, dL_maximal_14⟩)
  | 1, _ => exact ct_mk [(0, 9, 12, 30)] (0, 9, 15, 32) [(0, 9, 18, 13)] rfl rfl (List.forall_mem_cons.mpr ⟨⟨IOB, ex_30, by decide +kernel⟩, fun _ h => absurd h List.not_mem_nil⟩) ex_32 (by decide) (Or.inl ⟨3, 2, by decide, dL_maximal_15, dL_maximal_16, by decide, dL_maximal_17⟩)
  | 2, _ => exact ct_mk [(0, 9, 12, 30), (0, 9, 15, 32)] (0, 9, 18, 13) [] rfl rfl (List.forall_mem_cons.mpr ⟨⟨IOB, ex_30, by decide +kernel⟩, List.forall_mem_cons.mpr ⟨⟨NSE, ex_32, by decide +kernel⟩, fun _ h => absurd h List.not_mem_nil⟩⟩) ex_13 (by decide) (Or.inl ⟨3, 3, by decide, dL_maximal_18, dL_maximal_19, by decide, dL_maximal_20⟩)
theorem ct_minimal : ∀ i, i < 3 → CAT ML_minimal 4 ([IOB, NSE, ISE].getD i "") (nI (i + 1)) := by
  intro i hi
  match i, hi with
  | 0, _ => exact ct_mk [] (0, 9, 12, 30) [(0, 9, 15, 32), (0, 9, 18, 13)] rfl rfl (fun _ h => absurd h List.not_mem_nil) ex_30 (by decide) (Or.inl ⟨3, 1, by decide, dL_minimal_12, dL_minimal_13, by decide, dL_minimal_14⟩)
  | 1, _ => exact ct_mk [(0, 9, 12, 30)] (0, 9, 15, 32) [(0, 9, 18, 13)] rfl rfl (List.forall_mem_cons.mpr ⟨⟨IOB, ex_30, by decide +kernel⟩, fun _ h => absurd h List.not_mem_nil⟩) ex_32 (by decide) (Or.inl ⟨3, 2, by decide, dL_minimal_15, dL_minimal_16, by decide, dL_minimal_17⟩)
  | 2, _ => exact ct_mk [(0, 9, 12, 30), (0, 9, 15, 32)] (0, 9, 18, 13) [] rfl rfl (List.forall_mem_cons.mpr ⟨⟨IOB, ex_30, by decide +kernel⟩, List.forall_mem_cons.mpr ⟨⟨NSE, ex_32, by decide +kernel⟩, fun _ h => absurd h List.not_mem_nil⟩⟩) ex_13 (by decide) (Or.inl ⟨3, 3, by decide, dL_minimal_18, dL_minimal_19, by decide, dL_minimal_20⟩)
theorem ct_hitting : ∀ i, i < 3 → CAT ML_hitting 4 ([IOB, NSE, ISE].getD i "") (nI (i + 1)) := by
  intro i hi
  match i, hi with
  | 0, _ => exact ct_mk [] (0, 9, 12, 30) [(0, 9, 15, 32), (0, 9, 18, 13)] rfl rfl (fun _ h => absurd h List.not_mem_nil) ex_30 (by decide) (Or.inl ⟨3, 1, by decide, dL_hitting_12, dL_hitting_13, by decide, dL_hitting_14⟩)
  | 1, _ => exact ct_mk [(0, 9, 12, 30)] (0, 9, 15, 32) [(0, 9, 18, 13)] rfl rfl (List.forall_mem_cons.mpr ⟨⟨IOB, ex_30, by decide +kernel⟩, fun _ h => absurd h List.not_mem_nil⟩) ex_32 (by decide) (Or.inl ⟨3, 2, by decide, dL_hitting_15, dL_hitting_16, by decide, dL_hitting_17⟩)
  | 2, _ => exact ct_mk [(0, 9, 12, 30), (0, 9, 15, 32)] (0, 9, 18, 13) [] rfl rfl (List.forall_mem_cons.mpr ⟨⟨IOB, ex_30, by decide +kernel⟩, List.forall_mem_cons.mpr ⟨⟨NSE, ex_32, by decide +kernel⟩, fun _ h => absurd h List.not_mem_nil⟩⟩) ex_13 (by decide) (Or.inl ⟨3, 3, by decide, dL_hitting_18, dL_hitting_19, by decide, dL_hitting_20⟩)
theorem ct_closure : ∀ i, i < 3 → CAT ML_closure 4 ([IOB, NSE, ISE].getD i "") (nI (i + 1)) := by
  intro i hi
  match i, hi with
  | 0, _ => exact ct_mk [] (0, 9, 12, 30) [(0, 9, 15, 32), (0, 9, 18, 13)] rfl rfl (fun _ h => absurd h List.not_mem_nil) ex_30 (by decide) (Or.inl ⟨3, 1, by decide, dL_closure_12, dL_closure_13, by decide, dL_closure_14⟩)
  | 1, _ => exact ct_mk [(0, 9, 12, 30)] (0, 9, 15, 32) [(0, 9, 18, 13)] rfl rfl (List.forall_mem_cons.mpr ⟨⟨IOB, ex_30, by decide +kernel⟩, fun _ h => absurd h List.not_mem_nil⟩) ex_32 (by decide) (Or.inl ⟨3, 2, by decide, dL_closure_15, dL_closure_16, by decide, dL_closure_17⟩)
  | 2, _ => exact ct_mk [(0, 9, 12, 30), (0, 9, 15, 32)] (0, 9, 18, 13) [] rfl rfl (List.forall_mem_cons.mpr ⟨⟨IOB, ex_30, by decide +kernel⟩, List.forall_mem_cons.mpr ⟨⟨NSE, ex_32, by decide +kernel⟩, fun _ h => absurd h List.not_mem_nil⟩⟩) ex_13 (by decide) (Or.inl ⟨3, 3, by decide, dL_closure_18, dL_closure_19, by decide, dL_closure_20⟩)
theorem ct_change : ∀ i, i < 3 → CAT ML_change 5 ([IOB, NSE, ISE].getD i "") (nI (i + 1)) := by
  intro i hi
  match i, hi with
  | 0, _ => exact ct_mk [] (0, 10, 13, 30) [(0, 10, 17, 32), (0, 10, 21, 13)] rfl rfl (fun _ h => absurd h List.not_mem_nil) ex_30 (by decide) (Or.inr ⟨4, 1, by decide, dL_change_13, dL_change_15, by decide, dL_change_16⟩)
  | 1, _ => exact ct_mk [(0, 10, 13, 30)] (0, 10, 17, 32) [(0, 10, 21, 13)] rfl rfl (List.forall_mem_cons.mpr ⟨⟨IOB, ex_30, by decide +kernel⟩, fun _ h => absurd h List.not_mem_nil⟩) ex_32 (by decide) (Or.inr ⟨4, 2, by decide, dL_change_17, dL_change_19, by decide, dL_change_20⟩)
  | 2, _ => exact ct_mk [(0, 10, 13, 30), (0, 10, 17, 32)] (0, 10, 21, 13) [] rfl rfl (List.forall_mem_cons.mpr ⟨⟨IOB, ex_30, by decide +kernel⟩, List.forall_mem_cons.mpr ⟨⟨NSE, ex_32, by decide +kernel⟩, fun _ h => absurd h List.not_mem_nil⟩⟩) ex_13 (by decide) (Or.inr ⟨4, 3, by decide, dL_change_21, dL_change_23, by decide, dL_change_24⟩)
theorem ct_withCost : ∀ i, i < 3 → CAT ML_withCost 7 ([IOB, NSE, ISE].getD i "") (nI (i + 1)) := by
  intro i hi
  match i, hi with
  | 0, _ => exact ct_mk [] (0, 12, 15, 30) [(0, 12, 19, 32), (0, 12, 23, 13)] rfl rfl (fun _ h => absurd h List.not_mem_nil) ex_30 (by decide) (Or.inr ⟨5, 1, by decide, dL_withCost_15, dL_withCost_17, by decide, dL_withCost_18⟩)
  | 1, _ => exact ct_mk [(0, 12, 15, 30)] (0, 12, 19, 32) [(0, 12, 23, 13)] rfl rfl (List.forall_mem_cons.mpr ⟨⟨IOB, ex_30, by decide +kernel⟩, fun _ h => absurd h List.not_mem_nil⟩) ex_32 (by decide) (Or.inr ⟨5, 2, by decide, dL_withCost_19, dL_withCost_21, by decide, dL_withCost_22⟩)
  | 2, _ => exact ct_mk [(0, 12, 15, 30), (0, 12, 19, 32)] (0, 12, 23, 13) [] rfl rfl (List.forall_mem_cons.mpr ⟨⟨IOB, ex_30, by decide +kernel⟩, List.forall_mem_cons.mpr ⟨⟨NSE, ex_32, by decide +kernel⟩, fun _ h => absurd h List.not_mem_nil⟩⟩) ex_13 (by decide) (Or.inr ⟨5, 3, by decide, dL_withCost_23, dL_withCost_25, by decide, dL_withCost_26⟩)
theorem ct_count : ∀ i, i < 2 → CAT ML_count 4 ([IOB, NSE].getD i "") (nI (i + 1)) := by
  intro i hi
  match i, hi with
  | 0, _ => exact ct_mk [] (0, 9, 12, 30) [(0, 9, 15, 32)] rfl rfl (fun _ h => absurd h List.not_mem_nil) ex_30 (by decide) (Or.inl ⟨3, 1, by decide, dL_count_12, dL_count_13, by decide, dL_count_14⟩)
  | 1, _ => exact ct_mk [(0, 9, 12, 30)] (0, 9, 15, 32) [] rfl rfl (List.forall_mem_cons.mpr ⟨⟨IOB, ex_30, by decide +kernel⟩, fun _ h => absurd h List.not_mem_nil⟩) ex_32 (by decide) (Or.inl ⟨3, 2, by decide, dL_count_15, dL_count_16, by decide, dL_count_17⟩)
theorem ct_countOfSize : ∀ i, i < 2 → CAT ML_countOfSize 5 ([IOB, NSE].getD i "") (nI (i + 1)) := by
  intro i hi
  match i, hi with
  | 0, _ => exact ct_mk [] (0, 10, 13, 30) [(0, 10, 17, 32)] rfl rfl (fun _ h => absurd h List.not_mem_nil) ex_30 (by decide) (Or.inr ⟨4, 1, by decide, dL_countOfSize_13, dL_countOfSize_15, by decide, dL_countOfSize_16⟩)
  | 1, _ => exact ct_mk [(0, 10, 13, 30)] (0, 10, 17, 32) [] rfl rfl (List.forall_mem_cons.mpr ⟨⟨IOB, ex_30, by decide +kernel⟩, fun _ h => absurd h List.not_mem_nil⟩) ex_32 (by decide) (Or.inr ⟨4, 2, by decide, dL_countOfSize_17, dL_countOfSize_19, by decide, dL_countOfSize_20⟩)
theorem ct_countWith : ∀ i, i < 2 → CAT ML_countWith 5 ([IOB, NSE].getD i "") (nI (i + 1)) := by
  intro i hi
  match i, hi with
  | 0, _ => exact ct_mk [] (0, 10, 13, 30) [(0, 10, 17, 32)] rfl rfl (fun _ h => absurd h List.not_mem_nil) ex_30 (by decide) (Or.inr ⟨4, 1, by decide, dL_countWith_13, dL_countWith_15, by decide, dL_countWith_16⟩)
  | 1, _ => exact ct_mk [(0, 10, 13, 30)] (0, 10, 17, 32) [] rfl rfl (List.forall_mem_cons.mpr ⟨⟨IOB, ex_30, by decide +kernel⟩, fun _ h => absurd h List.not_mem_nil⟩) ex_32 (by decide) (Or.inr ⟨4, 2, by decide, dL_countWith_17, dL_countWith_19, by decide, dL_countWith_20⟩)
theorem ct_contains : ∀ i, i < 2 → CAT ML_contains 5 ([IOB, NSE].getD i "") (nI (i + 1)) := by
  intro i hi
  match i, hi with
  | 0, _ => exact ct_mk [] (0, 17, 20, 30) [(0, 17, 24, 32)] rfl rfl (fun _ h => absurd h List.not_mem_nil) ex_30 (by decide) (Or.inr ⟨4, 1, by decide, dL_contains_20, dL_contains_22, by decide, dL_contains_23⟩)
  | 1, _ => exact ct_mk [(0, 17, 20, 30)] (0, 17, 24, 32) [] rfl rfl (List.forall_mem_cons.mpr ⟨⟨IOB, ex_30, by decide +kernel⟩, fun _ h => absurd h List.not_mem_nil⟩) ex_32 (by decide) (Or.inr ⟨4, 2, by decide, dL_contains_24, dL_contains_26, by decide, dL_contains_27⟩)
theorem ct_areEqual : ∀ i, i < 2 → CAT ML_areEqual 5 ([IOB, NSE].getD i "") (nI (i + 1)) := by
  intro i hi
  match i, hi with
  | 0, _ => exact ct_mk [] (0, 17, 20, 30) [(0, 17, 24, 32)] rfl rfl (fun _ h => absurd h List.not_mem_nil) ex_30 (by decide) (Or.inr ⟨4, 1, by decide, dL_areEqual_20, dL_areEqual_22, by decide, dL_areEqual_23⟩)
  | 1, _ => exact ct_mk [(0, 17, 20, 30)] (0, 17, 24, 32) [] rfl rfl (List.forall_mem_cons.mpr ⟨⟨IOB, ex_30, by decide +kernel⟩, fun _ h => absurd h List.not_mem_nil⟩) ex_32 (by decide) (Or.inr ⟨4, 2, by decide, dL_areEqual_24, dL_areEqual_26, by decide, dL_areEqual_27⟩)
theorem ct_isPartOf : ∀ i, i < 2 → CAT ML_isPartOf 5 ([IOB, NSE].getD i "") (nI (i + 1)) := by
  intro i hi
  match i, hi with
  | 0, _ => exact ct_mk [] (0, 17, 20, 30) [(0, 17, 24, 32)] rfl rfl (fun _ h => absurd h List.not_mem_nil) ex_30 (by decide) (Or.inr ⟨4, 1, by decide, dL_isPartOf_20, dL_isPartOf_22, by decide, dL_isPartOf_23⟩)
  | 1, _ => exact ct_mk [(0, 17, 20, 30)] (0, 17, 24, 32) [] rfl rfl (List.forall_mem_cons.mpr ⟨⟨IOB, ex_30, by decide +kernel⟩, fun _ h => absurd h List.not_mem_nil⟩) ex_32 (by decide) (Or.inr ⟨4, 2, by decide, dL_isPartOf_24, dL_isPartOf_26, by decide, dL_isPartOf_27⟩)
theorem ct_setAt : ∀ i, i < 2 → CAT ML_setAt 5 ([IOB, NSE].getD i "") (nI (i + 1)) := by
  intro i hi
  match i, hi with
  | 0, _ => exact ct_mk [] (0, 10, 13, 30) [(0, 10, 17, 32)] rfl rfl (fun _ h => absurd h List.not_mem_nil) ex_30 (by decide) (Or.inr ⟨4, 1, by decide, dL_setAt_13, dL_setAt_15, by decide, dL_setAt_16⟩)
  | 1, _ => exact ct_mk [(0, 10, 13, 30)] (0, 10, 17, 32) [] rfl rfl (List.forall_mem_cons.mpr ⟨⟨IOB, ex_30, by decide +kernel⟩, fun _ h => absurd h List.not_mem_nil⟩) ex_32 (by decide) (Or.inr ⟨4, 2, by decide, dL_setAt_17, dL_setAt_19, by decide, dL_setAt_20⟩)
theorem ct_indexOf : ∀ i, i < 2 → CAT ML_indexOf 5 ([IOB, NSE].getD i "") (nI (i + 1)) := by
  intro i hi
  match i, hi with
  | 0, _ => exact ct_mk [] (0, 10, 13, 30) [(0, 10, 17, 32)] rfl rfl (fun _ h => absurd h List.not_mem_nil) ex_30 (by decide) (Or.inr ⟨4, 1, by decide, dL_indexOf_13, dL_indexOf_15, by decide, dL_indexOf_16⟩)
  | 1, _ => exact ct_mk [(0, 10, 13, 30)] (0, 10, 17, 32) [] rfl rfl (List.forall_mem_cons.mpr ⟨⟨IOB, ex_30, by decide +kernel⟩, fun _ h => absurd h List.not_mem_nil⟩) ex_32 (by decide) (Or.inr ⟨4, 2, by decide, dL_indexOf_17, dL_indexOf_19, by decide, dL_indexOf_20⟩)
theorem ct_setCost : ∀ i, i < 2 → CAT ML_setCost 5 ([IOB, IAE].getD i "") (nI (i + 1)) := by
  intro i hi
  match i, hi with
  | 0, _ => exact ct_mk [] (0, 10, 13, 30) [(0, 10, 17, 19)] rfl rfl (fun _ h => absurd h List.not_mem_nil) ex_30 (by decide) (Or.inr ⟨4, 1, by decide, dL_setCost_13, dL_setCost_15, by decide, dL_setCost_16⟩)
  | 1, _ => exact ct_mk [(0, 10, 13, 30)] (0, 10, 17, 19) [] rfl rfl (List.forall_mem_cons.mpr ⟨⟨IOB, ex_30, by decide +kernel⟩, fun _ h => absurd h List.not_mem_nil⟩) ex_19 (by decide) (Or.inr ⟨4, 2, by decide, dL_setCost_17, dL_setCost_19, by decide, dL_setCost_20⟩)
theorem ct_leastCost : ∀ i, i < 2 → CAT ML_leastCost 4 ([IOB, NSE].getD i "") (nI (i + 1)) := by
  intro i hi
  match i, hi with
  | 0, _ => exact ct_mk [] (0, 9, 12, 30) [(0, 9, 15, 32)] rfl rfl (fun _ h => absurd h List.not_mem_nil) ex_30 (by decide) (Or.inl ⟨3, 1, by decide, dL_leastCost_12, dL_leastCost_13, by decide, dL_leastCost_14⟩)
  | 1, _ => exact ct_mk [(0, 9, 12, 30)] (0, 9, 15, 32) [] rfl rfl (List.forall_mem_cons.mpr ⟨⟨IOB, ex_30, by decide +kernel⟩, fun _ h => absurd h List.not_mem_nil⟩) ex_32 (by decide) (Or.inl ⟨3, 2, by decide, dL_leastCost_15, dL_leastCost_16, by decide, dL_leastCost_17⟩)
theorem ct_meanCost : ∀ i, i < 2 → CAT ML_meanCost 4 ([IOB, NSE].getD i "") (nI (i + 1)) := by
  intro i hi
  match i, hi with
  | 0, _ => exact ct_mk [] (0, 8, 11, 30) [(0, 8, 14, 32)] rfl rfl (fun _ h => absurd h List.not_mem_nil) ex_30 (by decide) (Or.inl ⟨3, 1, by decide, dL_meanCost_11, dL_meanCost_12, by decide, dL_meanCost_13⟩)
  | 1, _ => exact ct_mk [(0, 8, 11, 30)] (0, 8, 14, 32) [] rfl rfl (List.forall_mem_cons.mpr ⟨⟨IOB, ex_30, by decide +kernel⟩, fun _ h => absurd h List.not_mem_nil⟩) ex_32 (by decide) (Or.inl ⟨3, 2, by decide, dL_meanCost_14, dL_meanCost_15, by decide, dL_meanCost_16⟩)
theorem ct_enumerate : ∀ i, i < 3 → CAT ML_enumerate 7 ([IOB, NSE, IAE].getD i "") (nI (i + 1)) := by
  intro i hi
  match i, hi with
  | 0, _ => exact ct_mk [] (0, 12, 15, 30) [(0, 12, 19, 32), (0, 12, 23, 19)] rfl rfl (fun _ h => absurd h List.not_mem_nil) ex_30 (by decide) (Or.inr ⟨5, 1, by decide, dL_enumerate_15, dL_enumerate_17, by decide, dL_enumerate_18⟩)
  | 1, _ => exact ct_mk [(0, 12, 15, 30)] (0, 12, 19, 32) [(0, 12, 23, 19)] rfl rfl (List.forall_mem_cons.mpr ⟨⟨IOB, ex_30, by decide +kernel⟩, fun _ h => absurd h List.not_mem_nil⟩) ex_32 (by decide) (Or.inr ⟨5, 2, by decide, dL_enumerate_19, dL_enumerate_21, by decide, dL_enumerate_22⟩)
  | 2, _ => exact ct_mk [(0, 12, 15, 30), (0, 12, 19, 32)] (0, 12, 23, 19) [] rfl rfl (List.forall_mem_cons.mpr ⟨⟨IOB, ex_30, by decide +kernel⟩, List.forall_mem_cons.mpr ⟨⟨NSE, ex_32, by decide +kernel⟩, fun _ h => absurd h List.not_mem_nil⟩⟩) ex_19 (by decide) (Or.inr ⟨5, 3, by decide, dL_enumerate_23, dL_enumerate_25, by decide, dL_enumerate_26⟩)
theorem ct_enumerated : ∀ i, i < 1 → CAT ML_enumerated 4 ([IOB].getD i "") (nI (i + 1)) := by
  intro i hi
  match i, hi with
  | 0, _ => exact ct_mk [] (0, 9, 12, 30) [] rfl rfl (fun _ h => absurd h List.not_mem_nil) ex_30 (by decide) (Or.inl ⟨3, 1, by decide, dL_enumerated_12, dL_enumerated_13, by decide, dL_enumerated_14⟩)
