/-! ROWS of the model: how many sets of a size. -/
section MQ3
variable {Γ : Gm} {d : Nat} {σ : AH} {own mad : Nat → Nat} {S : StT} {c : Nat}
theorem mcountOfSize_C {f z : Int32} (R : RepM Γ σ own mad S c) (hd : 4 ≤ d) : CMN Γ d MX9_countOfSize [.ref (mad 0), .int f, .int z] σ own mad c (aQ S f (vSize z)) := by
  refine RUN.wf (fun W => eX9_countOfSize ⟨R.2.1.1, mlook_call R ⟨R.2.1.1, fun σ5 e5 => ?_⟩ (by omega)⟩)
  obtain ⟨R5, F5, g5, st, W5⟩ := mq_code R W e5
  have bad : ∀ k, fcd S f = k → k ≠ 0 → k ≤ 2 → aQ S f (vSize z) = (k, 0, S) → EV Γ MX9_countOfSize d 14 [some (.ref (mad 0)), some (.int f), some (.int z), some (.int 0), some (.int 0)] [] σ5 (fun oc σ' => ansM (aQ S f (vSize z)) (mad 0) oc σ' ∧ StepM Γ σ own mad c (aQ S f (vSize z)).2.2 σ') := by
    intro k e k0 k2 hA
    rw [e] at g5
    rw [hA]
    refine gX9_countOfSize_14 ⟨fun y => absurd y (by decide), fun _ => ⟨R5.2.1.1, fun _ => ⟨⟨rfl, g5⟩, st⟩, fun y => ?_⟩⟩
    rw [g5] at y
    exact absurd y (nI_ne0 (by omega) (by omega))
  rcases fcd_le S f with e | e | e
  · rw [aQ_0 e]
    rw [e] at g5
    have L : ∀ m, m ≤ 4096 → EV Γ MX9_countOfSize d 14 [some (.ref (mad 0)), some (.int f), some (.int z), some (.int (foldF (sF S (ixF f)) (fun n m => if nI (popN 12 m) = z then n + 1 else n) 0 m)), some (.int (nI m))] [] σ5 (fun oc σ' => ansM (0, vSize z (sF S (ixF f)), S) (mad 0) oc σ' ∧ StepM Γ σ own mad c S σ') := by
      refine upto 4096 ?_ (fun m hm ih => ?_)
      · exact gX9_countOfSize_14 ⟨fun _ => ⟨⟨rfl, g5⟩, st⟩, fun y => absurd ((c4096le (by omega)).mpr (by omega)) y⟩
      · refine gX9_countOfSize_14 ⟨fun y => absurd ((c4096le (by omega)).mp y) (by omega), fun _ => ⟨R5.2.1.1, fun y => absurd g5 y, fun _ => ⟨mad 4, R5.2.1.2.2.2.2.1, mhas_call R5 e hm ?_ (by omega)⟩⟩⟩
        rw [nI_1, Int32.add_zero]
        cases q : sF S (ixF f) m
        · refine ⟨fun _ => ?_, fun y => absurd rfl y⟩
          rw [fold_n q] at ih; exact ih
        · refine ⟨fun y => absurd y (by decide), fun _ => CI.of (d2 := 1) (elementsIn_R hm) (by omega) (fun r σ9 _ t => ?_)⟩
          obtain ⟨t1, t2⟩ := t
          subst t1
          rw [t2]
          rw [fold_y q] at ih
          refine ⟨fun y => ?_, fun y => ?_⟩
          · rw [if_neg y] at ih; exact ih
          · rw [if_pos y] at ih; exact ih
    exact L 0 (Nat.zero_le _)
  · exact bad 1 e (by omega) (by omega) (aQ_1 e)
  · exact bad 2 e (by omega) (by omega) (aQ_2 e)
end MQ3
