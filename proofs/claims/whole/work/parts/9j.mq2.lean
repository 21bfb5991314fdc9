/-! ROWS of the model: questions about one family. -/
section MQ2
variable {Γ : Gm} {d : Nat} {σ : AH} {own mad : Nat → Nat} {S : StT} {c : Nat}
/-- is this set in that family -/
theorem mhas_call {f : Int32} {m : Nat} {K : Int32 → AH → Prop} {KX : String → AH → Prop} (R : RepM Γ σ own mad S c) (e : fcd S f = 0) (hm : m < 4096) (k : K (b2i (sF S (ixF f) m)) σ) (hd : 1 ≤ d) : CI Γ d MX9_has [.ref (mad 4), .int f, .int (nI m)] σ K KX := by
  obtain ⟨e1, e2, e3⟩ := fcd_0 R.n.2 e
  have n2 := R.n.2
  have ef : [Value.ref (mad 4), Value.int f, Value.int (nI m)] = [Value.ref (mad 4), Value.int (nI (ixF f)), Value.int (nI m)] := by rw [← e1]
  rw [ef]
  refine CI.of (d2 := 0) (mhas_R R.2.2.1.2.2.2.1 (by omega) (by omega) hm) (by omega) (fun r σ1 _ q => ?_)
  obtain ⟨q1, q2⟩ := q
  subst q1
  have e5 : bs (sr (gj σ1 (mad 4)) (ixF f)) m = sF S (ixF f) m := by rw [← fam_lt _ hm, R.2.2.2.2.1.2.2.2.2.2 _ e3]
  rw [q2, e5]; exact k
theorem mcontains_C {f x : Int32} (R : RepM Γ σ own mad S c) (hd : 4 ≤ d) : CMN Γ d MX9_contains [.ref (mad 0), .int f, .int x] σ own mad c (aQ S f (vHas x)) := by
  refine RUN.wf (fun W => eX9_contains ⟨R.2.1.1, mlook_call R ⟨R.2.1.1, fun σ5 e5 => ?_⟩ (by omega)⟩)
  obtain ⟨R5, F5, g5, st, W5⟩ := mq_code R W e5
  rw [g5]
  rcases fcd_le S f with e | e | e
  · rw [aQ_0 e, e]
    rw [e] at g5
    refine ⟨fun z => absurd rfl z, fun _ => CI.of (d2 := 0) isMask_R (by omega) (fun r σ9 _ q => ?_)⟩
    obtain ⟨q1, q2⟩ := q
    subst q1
    rcases q2 with ⟨q2, hx⟩ | ⟨q2, hx⟩
    · subst q2
      obtain ⟨h1, h2⟩ := isM_ix hx
      have ev : vHas x (sF S (ixF f)) = b2i (sF S (ixF f) (ixF x)) := by unfold vHas; rw [if_pos (bd_true.mpr hx)]
      refine ⟨fun z => absurd z (by decide), fun _ => ⟨R5.2.1.1, mad 4, R5.2.1.2.2.2.2.1, ?_⟩⟩
      have ex : [Value.ref (mad 4), Value.int f, Value.int x] = [Value.ref (mad 4), Value.int f, Value.int (nI (ixF x))] := by rw [← h2]
      rw [ex, ev]
      refine mhas_call R5 e h1 ?_ (by omega)
      cases q : sF S (ixF f) (ixF x)
      · exact ⟨fun _ => ⟨⟨rfl, g5⟩, st⟩, fun z => absurd rfl z⟩
      · exact ⟨fun z => absurd z (by decide), fun _ => ⟨⟨rfl, g5⟩, st⟩⟩
    · subst q2
      have ev : vHas x (sF S (ixF f)) = 0 := by unfold vHas; rw [if_neg (by rw [bd_false.mpr hx]; decide)]
      rw [ev]
      exact ⟨fun _ => ⟨⟨rfl, g5⟩, st⟩, fun z => absurd rfl z⟩
  · rw [aQ_1 e, e]
    rw [e] at g5
    exact ⟨fun _ => ⟨⟨rfl, g5⟩, st⟩, fun z => absurd z (by decide)⟩
  · rw [aQ_2 e, e]
    rw [e] at g5
    exact ⟨fun _ => ⟨⟨rfl, g5⟩, st⟩, fun z => absurd z (by decide)⟩
end MQ2
