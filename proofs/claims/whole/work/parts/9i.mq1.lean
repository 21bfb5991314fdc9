/-! ROWS of the model: what it looks up; the simplest questions. -/
section MQ
variable {Γ : Gm} {d : Nat} {σ : AH} {own mad : Nat → Nat} {S : StT} {c : Nat}
theorem StepM.same {σ' : AH} {S' : StT} (R : RepM Γ σ' own mad S' c) (F : FR (RP MW own (lo Γ + hc σ)) σ σ') (h1 : hc σ' = hc σ) (h2 : hv σ' = hv σ) : StepM Γ σ own mad c S' σ' :=
  ⟨own, c, R, fun _ _ => rfl, F, by omega, by omega, Nat.le_refl _⟩
theorem RepM.n (R : RepM Γ σ own mad S c) : gi σ (mad 0) 6 = nI (sN S) ∧ sN S ≤ 200 := ⟨R.2.2.2.1.2.2.2.1, R.2.2.2.2.2.2.2.2.1⟩
/-- a family's number looked up -/
theorem mlook_call {f : Int32} {K : Int32 → AH → Prop} {KX : String → AH → Prop} (R : RepM Γ σ own mad S c) (k : K (nI (fcd S f)) σ) (hd : 1 ≤ d) : CI Γ d MX9_look_ [.ref (mad 0), .int f] σ K KX := by
  obtain ⟨h6, n2⟩ := R.n
  have x1 := R.2.1
  have x2 := R.2.2.1
  rcases fcd_cases S n2 f with ⟨e, hf⟩ | ⟨k', rfl, ei, hk, hcs⟩
  · have hx : f < 0 ∨ (¬ f < 0 ∧ ¬ f < nI (sN S)) := by
      rcases hf with z | ⟨z1, z2⟩
      · exact Or.inl z
      · refine Or.inr ⟨z1, fun y => ?_⟩
        obtain ⟨j, hj, rfl⟩ := nI_of z1
        have a := (nI_leI (by omega) hj).mp z2
        have b := (nI_ltI hj (by omega)).mp y
        omega
    refine CI.of (d2 := 0) (look_no x1.1 h6 hx) (by omega) (fun r σ1 _ q => ?_)
    obtain ⟨q1, rfl⟩ := q
    subst q1
    rw [e] at k; exact k
  · refine CI.of (d2 := 0) (look_R (rel := sR S) x1.1 h6 n2 x1.2.2.2.1 x2.2.2.1 (fun i hi => R.2.2.2.2.1.2.2.1 i (by omega)) hk) (by omega) (fun r σ1 _ q => ?_)
    obtain ⟨q1, rfl⟩ := q
    subst q1
    rcases hcs with ⟨e, er⟩ | ⟨e, er⟩
    · rw [e] at k
      rw [er]; exact k
    · rw [e] at k
      rw [er]; exact k
theorem mcreated_R (R : RepM Γ σ own mad S c) : CMN Γ d MX9_createdCount [.ref (mad 0)] σ own mad c (0, nI (sN S), S) := by
  refine RUN.wf (fun W => eX9_createdCount ⟨R.2.1.1, fun σ2 e2 => ?_⟩)
  obtain ⟨R2, F2, g2⟩ := R.thrown (x := 0)
  rw [← e2] at R2 F2 g2
  rw [R2.n.1]
  exact ⟨⟨rfl, g2⟩, StepM.same R2 F2 (by rw [e2]; rfl) (by rw [e2]; rfl)⟩
/-- a question about one family: its walk behind the look -/
theorem mq_code {x : Int32} (R : RepM Γ σ own mad S c) (W : WF Γ σ) {σ' : AH} (e : σ' = setI σ (mad 0) 0 x) : RepM Γ σ' own mad S c ∧ FR (RP MW own (lo Γ + hc σ)) σ σ' ∧ gi σ' (mad 0) 0 = x ∧ StepM Γ σ own mad c S σ' ∧ WF Γ σ' := by
  obtain ⟨R2, F2, g2⟩ := R.thrown (x := x)
  rw [← e] at R2 F2 g2
  exact ⟨R2, F2, g2, StepM.same R2 F2 (by rw [e]; rfl) (by rw [e]; rfl), by rw [e]; exact W.upd R.2.1.1 (by decide) rfl rfl (fun _ _ => rfl)⟩
theorem fcd_le (S : StT) (f : Int32) : fcd S f = 0 ∨ fcd S f = 1 ∨ fcd S f = 2 := by
  unfold fcd
  split
  · exact Or.inr (Or.inl rfl)
  · split
    · exact Or.inr (Or.inr rfl)
    · exact Or.inl rfl
theorem fcd_0 {S : StT} (hn : sN S ≤ 200) {f : Int32} (h : fcd S f = 0) : f = nI (ixF f) ∧ ixF f < sN S ∧ okv S (ixF f) = true := by
  rcases fcd_cases S hn f with ⟨e, -⟩ | ⟨k, rfl, ei, hk, ⟨e, -⟩ | ⟨e, er⟩⟩
  · omega
  · omega
  · rw [ei]; exact ⟨rfl, hk, okf_t.mpr ⟨hk, er⟩⟩
theorem mcount_C {f : Int32} (R : RepM Γ σ own mad S c) (hd : 4 ≤ d) : CMN Γ d MX9_count [.ref (mad 0), .int f] σ own mad c (aQ S f (fun F => nI (cntF F))) := by
  refine RUN.wf (fun W => eX9_count ⟨R.2.1.1, mlook_call R ⟨R.2.1.1, fun σ5 e5 => ?_⟩ (by omega)⟩)
  obtain ⟨R5, F5, g5, st, W5⟩ := mq_code R W e5
  rw [g5]
  have n2 := R.n.2
  rcases fcd_le S f with e | e | e
  · rw [aQ_0 e, e]
    rw [e] at g5
    obtain ⟨e1, e2, e3⟩ := fcd_0 n2 e
    refine ⟨fun z => absurd rfl z, fun _ => ⟨mad 4, R5.2.1.2.2.2.2.1, ?_⟩⟩
    have ef : [Value.ref (mad 4), Value.int f] = [Value.ref (mad 4), Value.int (nI (ixF f))] := by rw [← e1]
    rw [ef]
    refine CI.of (d2 := 1) (many_R R5.2.2.1.2.2.2.1 (by omega) (by omega) (by omega)) (by omega) (fun r σ1 _ q => ?_)
    obtain ⟨q1, q2⟩ := q
    subst q1
    refine ⟨⟨?_, g5⟩, st⟩
    rw [q2, rct_fam, R5.2.2.2.2.1.2.2.2.2.2 _ e3]
  · rw [aQ_1 e, e]
    rw [e] at g5
    exact ⟨fun _ => ⟨⟨rfl, g5⟩, st⟩, fun z => absurd z (by decide)⟩
  · rw [aQ_2 e, e]
    rw [e] at g5
    exact ⟨fun _ => ⟨⟨rfl, g5⟩, st⟩, fun z => absurd z (by decide)⟩
end MQ
