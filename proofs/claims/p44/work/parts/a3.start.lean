/-! THE LAW from its entry, over the machine. -/
theorem law_entry {p : Program} {e : Env} {s : State} {m : MethodId} {below : List Frame} {meth : Method} {c : Code} (l : Launch) (hflags : l.flags = flags0) {b L : Nat} {xs : Nat → Int32} (hL : L ≤ 260) (hexec : p.tables.exec = Jvm.exec) (hcode : c.code = code) (hml : c.maxLocals = 21) (hown : s.vm.findClass RL = some m.cls) (hlocks : meth.locks = false) (hret : meth.sig.returnType = ret) (htab : c.exceptionTable.toList = []) (hname : meth.name = "law") (hts : ∀ w ∈ lw_tbl, w.before #[Value.ref b] s = true) (hX : va_X b L xs s s.heap) (hgv : (Jvm.Cond.and given_1 narrow_1).before #[Value.ref b] s = true) :
    ∃ (Γ : Gm) (σ' : AH), hc σ' ≤ 600086 ∧ hv σ' ≤ 7301442 ∧ (∀ q, ownA Γ q ↔ s.heap.size ≤ q) ∧ W p l e (RM 13 (hc σ') (hv σ')) s m #[Value.ref b] below meth c s.heap [] 0 0 (vx_MQ below (QcM Γ (.inl (some (.int 1))) σ') (XcM Γ (.inl (some (.int 1))) σ') #[Value.ref b] s (hc σ') (hv σ') (ownA Γ)) (entryFrame m ([Value.ref b] : List Value).toArray 21) := by
  have hs0 := flat_of_before _ hgv
  obtain ⟨D, hD⟩ := en_cls hts
  obtain ⟨E, hE, kA, hkA⟩ := en_ty hts
  have hA : ∀ a : Nat, a < s.heap.size → ¬ (fun q : Nat => s.heap.size ≤ q) a := fun a h => by
    show ¬ s.heap.size ≤ a
    omega
  obtain ⟨wt, hev, cw, w1, w2, w3, w4, w5, w6, w7⟩ := en_with hs0 (A := fun q : Nat => s.heap.size ≤ q) hA
  obtain ⟨scr, x1, x2, x3, x4, x5⟩ := hX
  have wlt : wt < s.heap.size := (Array.getElem?_eq_some_iff.mp w1).1
  have blt : b < s.heap.size := (Array.getElem?_eq_some_iff.mp x1).1
  have nbw : b ≠ wt := fun z => by
    rw [z, w1] at x1
    cases Option.some.inj x1
    exact arr_one x2 w2
  -- the abstract start
  obtain ⟨Γ, hΓ⟩ : ∃ Γ : Gm, Γ = (l, D, E, s.heap.size, wt) := ⟨_, rfl⟩
  obtain ⟨σ0, hσ⟩ : ∃ σ0 : AH, σ0 = (0, 0, up (up (fun _ => none) wt (some (27, 6))) b (some (28, L)), up (fun _ _ => 0) b xs, up (fun _ _ => 0) wt withV, fun _ _ => none, fun _ _ => 0) := ⟨_, rfl⟩
  have hlo : lo Γ = s.heap.size := by rw [hΓ]; rfl
  have hwt : wth Γ = wt := by rw [hΓ]; rfl
  have hs' : hs σ0 = up (up (fun _ => none) wt (some (27, 6))) b (some (28, L)) := by rw [hσ]; rfl
  have hc0 : hc σ0 = 0 := by rw [hσ]; rfl
  have hv0 : hv σ0 = 0 := by rw [hσ]; rfl
  have gi0 : gi σ0 b = xs := by rw [hσ]; exact (up_same (fun _ _ => (0 : Int32)) b xs)
  have gj0 : gj σ0 wt = withV := by rw [hσ]; exact (up_same (fun _ _ => (0 : Int64)) wt withV)
  have hsb : hs σ0 b = some (28, L) := by rw [hs', up_same]
  have hsw : hs σ0 wt = some (27, 6) := by rw [hs', up_ne _ _ (fun z => nbw z.symm), up_same]
  have only : ∀ a x, hs σ0 a = some x → (a = b ∧ x = (28, L)) ∨ (a = wt ∧ x = (27, 6)) := fun a x h => by
    rw [hs', up_app] at h
    split at h
    · rename_i z
      exact Or.inl ⟨z, (Option.some.inj h).symm⟩
    · rw [up_app] at h
      split at h
      · rename_i z
        exact Or.inr ⟨z, (Option.some.inj h).symm⟩
      · exact absurd h (by simp)
  have hW : WF Γ σ0 := by
    refine ⟨fun a x h => ?_, by rw [hwt]; exact hsw, fun j _ => by rw [hwt, gj0], fun a k n h hk => ?_, ?_⟩
    · rw [hlo]
      rcases only a x h with ⟨z, -⟩ | ⟨z, -⟩ <;> rw [z] <;> omega
    · rcases only a _ h with ⟨-, z⟩ | ⟨-, z⟩
      · cases z; omega
      · cases z; omega
    · show (gL Γ).stackTraces = false
      rw [hΓ]
      show l.stackTraces = false
      unfold Launch.stackTraces
      rw [hflags]
      decide
  have hHP : HP Γ σ0 s s.heap := by
    refine ⟨fun a k n h => ?_, by rw [hlo, hc0]; rfl⟩
    rcases only a _ h with ⟨z, z2⟩ | ⟨z, z2⟩
    · cases z2
      rw [z]
      unfold cellOK
      rw [if_neg (by omega), if_neg (by omega), if_neg (by omega)]
      refine ⟨scr, x1, x2, x3, by omega, fun _ => x4, fun j hj => ?_⟩
      rw [x5 j hj]
      show some (Value.int (xs j)) = some (Value.int (gi σ0 b j))
      rw [gi0]
    · cases z2
      rw [z]
      unfold cellOK
      rw [if_neg (by omega), if_neg (by omega), if_pos rfl]
      refine ⟨cw, w1, w2, w3, w4, fun h => absurd h (by omega), fun j hj => ?_⟩
      rw [w6 j hj]
      show some (Value.long (withV j)) = some (Value.long (gj σ0 wt j))
      rw [gj0]
  have hKN : KN Γ s := by
    refine ⟨⟨?_, ?_⟩, en_ng hts, ?_, trivial⟩
    · rw [hΓ]; exact hD
    · rw [hΓ]; exact hE
    · rw [hΓ]; exact ⟨kA, hkA⟩
  have hAo : ∀ q, ownA Γ q ↔ s.heap.size ≤ q := fun q => by
    show lo Γ ≤ q ↔ _
    rw [hlo]
  have hA2 : ∀ a : Nat, a < s.heap.size → ¬ ownA Γ a := fun a h z => by
    have := (hAo a).mp z
    omega
  have hST : ST Γ s s.heap := by
    refine ⟨?_, ?_, ?_⟩
    · rw [hwt]
      exact va_Zref (hts _ (List.mem_of_getElem? (i := 550) (by decide +kernel))) (hts _ (List.mem_of_getElem? (i := 34) (by decide +kernel))) hev hA2
    · exact vx_Zqof (hts _ (List.mem_of_getElem? (i := 262) (by decide +kernel))) (hts _ (List.mem_of_getElem? (i := 27) (by decide +kernel))) (hs0 _ (by decide +kernel)) hA2
    · exact vx_Zqof (hts _ (List.mem_of_getElem? (i := 264) (by decide +kernel))) (hts _ (List.mem_of_getElem? (i := 27) (by decide +kernel))) (hs0 _ (by decide +kernel)) hA2
  obtain ⟨o, σ', ⟨h1, h2, h⟩, -, q1, q2, q3⟩ := law_start (sc := b) (n := L) hL hW hsb hc0 hv0 hW
  subst q1
  refine ⟨Γ, σ', q2, q3, hAo, ?_⟩
  have h9 := h p e s m #[Value.ref b] below meth c s.heap [] _ 0 0 ⟨hexec, hcode, hml, hown, hlocks, hret, htab, hname, fun w hw9 => hts w (List.mem_filter.mp hw9).1, hKN, hST⟩ va_S.rf hHP (lvh.entry (vs := [.ref b]) (n := 21) (Nat.le_of_ble_eq_true rfl) rfl) (Nat.zero_le _) (Nat.zero_le _)
  rw [hc0, hv0] at h9
  rw [lg_entry_eq]
  have hg : gL Γ = l := by rw [hΓ]; rfl
  rw [hg] at h9
  exact h9
