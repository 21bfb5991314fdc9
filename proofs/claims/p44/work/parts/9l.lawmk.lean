/-! THE LAW's make and is. -/
section LAWMK
variable {Γ : Gm} {d : Nat} {σ : AH} {ad : Nat → Nat} {sc n nu fa : Nat} {gn : Nat → Int32} {gf : Nat → Int64} {S : StT} {T R : Nat}
/-- how many sets below m -/
noncomputable def wl (x : Int64) (m : Nat) : Nat := ctp (fun i => wb x i = true) m
theorem wl_succ (x : Int64) (m : Nat) : wl x (m + 1) = wl x m + (if wb x m = true then 1 else 0) := by
  show fb_ct (fun i => bd (wb x i = true)) (m + 1) = fb_ct (fun i => bd (wb x i = true)) m + _
  cases h : wb x m
  · show fb_ct _ m + (if bd (wb x m = true) = true then 1 else 0) = _
    rw [h, bd_false.mpr (by decide)]
  · show fb_ct _ m + (if bd (wb x m = true) = true then 1 else 0) = _
    rw [h, bd_true.mpr rfl]
def MKQ (Γ : Gm) (ad : Nat → Nat) (sc n nu fa : Nat) (gn : Nat → Int32) (gf : Nat → Int64) (S : StT) (T R : Nat) (x : Int64) (oc : Oc) (σ' : AH) : Prop := ∃ a S', oc = .inl (some (.int (nI a))) ∧ LT Γ ad sc n nu fa gn gf S' (T + 129) R σ' ∧ Ext S S' ∧ sN S ≤ a ∧ okv S' a = true ∧ sF S' a = wb x ∧ sN S' ≤ sN S + 1 + 2 * wc x
theorem make_11 {x : Int64} (hd : 12 ≤ d) (hn : sN S + 1 + 2 * wc x ≤ 200) : ∀ m, m ≤ 64 → ∀ a σ S1, LT Γ ad sc n nu fa gn gf S1 (T + 1 + 2 * m) R σ → Ext S S1 → sN S ≤ a → okv S1 a = true → sF S1 a = lowF x m → sN S1 ≤ sN S + 1 + 2 * wl x m → EV Γ ML_make d 11 [some (.ref (ad 0)), some (.long x), none, some (.int (nI a)), some (.int (nI m))] [] σ (MKQ Γ ad sc n nu fa gn gf S T R x) := by
  refine upto 64 (fun a σ S1 h ex ha ok ff hs => ?_) (fun m hm ih a σ S1 h ex ha ok ff hs => ?_)
  · refine gL_make_11 ⟨fun _ => ⟨a, S1, rfl, h, ex, ha, ok, by rw [ff, lowF_64], hs⟩, fun z => absurd ((le64 (by omega)).mpr (Nat.le_refl 64)) z⟩
  · refine gL_make_11 ⟨fun z => absurd ((le64 (by omega)).mp z) (by omega), fun _ => CI.of (d2 := 0) (has_L hm) (by omega) (fun r σ2 _ e => ?_)⟩
    obtain ⟨rfl, rfl⟩ := e
    have le : wl x (m + 1) ≤ wc x := by
      unfold wl wc
      exact fb_ct_mono _ (by omega)
    have ws := wl_succ x m
    refine ⟨fun z => ?_, fun z => ?_⟩
    · have z := (b2i0 _).mp z
      rw [nI_1]
      refine ih a _ S1 (h.more (by omega)) ex ha ok (by rw [ff, lowF_skip z]) ?_
      rw [z] at ws
      rw [if_neg (by decide)] at ws
      omega
    · have t : wb x m = true := by
        cases q : wb x m
        · exact absurd ((b2i0 _).mpr q) z
        · rfl
      rw [t, if_pos rfl] at ws
      refine ⟨h.co, lt_add h (fun own c w R0 => single_R R0 (by omega)) (sng_0 (by omega) (by omega)) (fun σ5 h5 ok5 ff5 => ?_) (by omega)⟩
      have e5 : Ext S1 (stA S1 (sngF m)) := Ext.add _
      obtain ⟨oka, fa5⟩ := e5.ok ok
      refine ⟨h5.co, lt_add h5 (fun own c w R0 => union_C R0 (Nat.le_refl 11)) (two_0 oka ok5 (by show sN S1 + 1 < 200; omega) (fun z => by unfold isDv at z; omega)) (fun σ8 h8 ok8 ff8 => ?_) (by omega)⟩
      rw [nI_1]
      refine ih (sN S1 + 1) σ8 _ (h8.more (by omega)) (ex.trans (e5.trans (Ext.add _))) (by have := ex.1; omega) ok8 ?_ ?_
      · exact ff8.trans (by rw [fa5, ff, ff5]; exact lowF_put t hm)
      · show sN S1 + 1 + 1 ≤ _
        omega
theorem make_L {x : Int64} (hd : 12 ≤ d) (h : LT Γ ad sc n nu fa gn gf S T R σ) (hn : sN S + 1 + 2 * wc x ≤ 200) : RUN Γ d ML_make [.ref (ad 0), .long x] σ (MKQ Γ ad sc n nu fa gn gf S T R x) := by
  refine eL_make ⟨h.co, lt_add h (fun own c w R0 => subsetsOf_R R0 (by omega)) (sub_0 (by omega)) (fun σ1 h1 ok1 ff1 => ?_) hd⟩
  exact make_11 hd hn 0 (by omega) (sN S) σ1 _ h1 (Ext.add _) (Nat.le_refl _) ok1 (by rw [ff1, lowF_0]) (by show sN S + 1 ≤ _; omega)
/-- the number of sets, as the class counts it and as the law does -/
theorem cnt_w (k : Nat) : cntF (wb (lN k)) = popN 64 k := by
  unfold cntF popN
  have e : ∀ j, fb_ct (wb (lN k)) (64 + j) = fb_ct (wb (lN k)) 64 := fun j => by
    induction j with
    | zero => rfl
    | succ j ih =>
      show fb_ct (wb (lN k)) (64 + j) + (if wb (lN k) (64 + j) = true then 1 else 0) = _
      rw [wb_ge _ (by omega), ih]
      rfl
  rw [show (4096 : Nat) = 64 + 4032 by omega, e]
  exact fb_ct_cong (fun i hi => w_lN k hi)
theorem is_36 {x : Int64} {a : Nat} (hd : 12 ≤ d) (ok : okv S a = true) (ff : sF S a = wb x) : ∀ m, m ≤ 64 → ∀ σ, LT Γ ad sc n nu fa gn gf S (T + 3 + m) R σ → EV Γ ML_is d 36 [some (.ref (ad 0)), some (.int (nI a)), some (.long x), none, some (.int (nI m))] [] σ (fun oc σ' => oc = .inl (some (.int 1)) ∧ LT Γ ad sc n nu fa gn gf S (T + 67) R σ') := by
  refine upto 64 (fun σ h => ?_) (fun m hm ih σ h => ?_)
  · exact gL_is_36 ⟨fun _ => ⟨rfl, h⟩, fun z => absurd ((le64 (by omega)).mpr (Nat.le_refl 64)) z⟩
  · refine gL_is_36 ⟨fun z => absurd ((le64 (by omega)).mp z) (by omega), fun _ => ⟨h.co, ?_⟩⟩
    refine lt_ask h (fun own c w R0 => contains_R R0 (by omega)) (q_0 ok h.n200) (fun σ2 h2 => ?_) hd
    refine CI.of (d2 := 0) (has_L hm) (by omega) (fun r σ5 _ e => ?_)
    obtain ⟨rfl, rfl⟩ := e
    refine ⟨fun _ => by rw [nI_1]; exact ih _ h2, fun z => absurd ?_ z⟩
    unfold vHas
    rw [bd_true.mpr (isM_n (by omega)), if_pos rfl, show ixF (nI m) = m from pk_tn (by omega), ff]
theorem is_L {x : Int64} {a : Nat} (hd : 12 ≤ d) (h : LT Γ ad sc n nu fa gn gf S T R σ) (ok : okv S a = true) (ff : sF S a = wb x) : RUN Γ d ML_is [.ref (ad 0), .int (nI a), .long x] σ (fun oc σ' => oc = .inl (some (.int 1)) ∧ LT Γ ad sc n nu fa gn gf S (T + 67) R σ') := by
  refine eL_is ⟨h.co, lt_ask h (fun own c w R0 => count_R R0 (by omega)) (q_0 ok h.n200) (fun σ1 h1 => ?_) hd⟩
  obtain ⟨k, hk, ek⟩ := wb_of x
  refine CI.of (d2 := 0) (P := fun r σ' => σ' = σ1 ∧ r = nI (popN 64 k)) (by rw [ek]; exact bitc64_R k hk) (by omega) (fun r σ4 _ e => ?_)
  obtain ⟨rfl, rfl⟩ := e
  have c1 : nI (cntF (sF S a)) = nI (popN 64 k) := by rw [ff, ek, cnt_w]
  refine ⟨fun z => absurd c1 z, fun _ => ⟨h1.co, ?_⟩⟩
  refine lt_ask h1 (fun own c w R0 => contains_R R0 (by omega)) (q_0 ok h.n200) (fun σ7 h7 => ?_) hd
  have v1 : vHas 64 (sF S a) = 0 := by
    unfold vHas
    split
    · rw [ff, show ixF 64 = 64 from by decide, wb_ge x (Nat.le_refl 64)]; rfl
    · rfl
  have v2 : vHas (-1) (sF S a) = 0 := by
    unfold vHas
    rw [bd_false.mpr (fun z => z.1 (by decide))]
    rfl
  refine ⟨fun z => absurd v1 z, fun _ => ⟨h7.co, ?_⟩⟩
  refine lt_ask h7 (fun own c w R0 => contains_R R0 (by omega)) (q_0 ok h.n200) (fun σ11 h11 => ?_) hd
  exact ⟨fun _ => is_36 hd ok ff 0 (by omega) σ11 h11, fun z => absurd v2 z⟩
end LAWMK
theorem cnt_nz {x : Int64} (h : x ≠ 0) : cntF (wb x) ≠ 0 := by
  obtain ⟨b, hb⟩ := ne_bit h
  have := wb_lt hb
  exact Nat.pos_iff_ne_zero.mp (fb_ct_pos.mpr ⟨b, by omega, hb⟩)
