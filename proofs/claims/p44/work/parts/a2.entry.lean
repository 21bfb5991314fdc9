/-! THE LAW's entry: what the start gives. -/
theorem ul_X0 : ∀ w ∈ u_ws RX0 TX0 4, w ∈ lw_tbl := by
  intro w hw
  obtain ⟨k, hk, rfl⟩ := List.mem_map.mp hw
  have hk := List.mem_range.mp hk
  match k, hk with
  | 0, _ => exact List.mem_of_getElem? (i := 63) (by decide +kernel)
  | 1, _ => exact List.mem_of_getElem? (i := 65) (by decide +kernel)
  | 2, _ => exact List.mem_of_getElem? (i := 67) (by decide +kernel)
  | 3, _ => exact List.mem_of_getElem? (i := 69) (by decide +kernel)
  | k + 4, hk => exact absurd hk (by omega)
theorem un_X0 : Cond.instantiable RX0 4 ∈ lw_tbl := List.mem_of_getElem? (i := 54) (by decide +kernel)
theorem ul_X1 : ∀ w ∈ u_ws RX1 TX1 2, w ∈ lw_tbl := by
  intro w hw
  obtain ⟨k, hk, rfl⟩ := List.mem_map.mp hw
  have hk := List.mem_range.mp hk
  match k, hk with
  | 0, _ => exact List.mem_of_getElem? (i := 154) (by decide +kernel)
  | 1, _ => exact List.mem_of_getElem? (i := 156) (by decide +kernel)
  | k + 2, hk => exact absurd hk (by omega)
theorem un_X1 : Cond.instantiable RX1 2 ∈ lw_tbl := List.mem_of_getElem? (i := 145) (by decide +kernel)
theorem ul_X2 : ∀ w ∈ u_ws RX2 TX2 3, w ∈ lw_tbl := by
  intro w hw
  obtain ⟨k, hk, rfl⟩ := List.mem_map.mp hw
  have hk := List.mem_range.mp hk
  match k, hk with
  | 0, _ => exact List.mem_of_getElem? (i := 168) (by decide +kernel)
  | 1, _ => exact List.mem_of_getElem? (i := 170) (by decide +kernel)
  | 2, _ => exact List.mem_of_getElem? (i := 172) (by decide +kernel)
  | k + 3, hk => exact absurd hk (by omega)
theorem un_X2 : Cond.instantiable RX2 3 ∈ lw_tbl := List.mem_of_getElem? (i := 160) (by decide +kernel)
theorem ul_X3 : ∀ w ∈ u_ws RX3 TX3 8, w ∈ lw_tbl := by
  intro w hw
  obtain ⟨k, hk, rfl⟩ := List.mem_map.mp hw
  have hk := List.mem_range.mp hk
  match k, hk with
  | 0, _ => exact List.mem_of_getElem? (i := 89) (by decide +kernel)
  | 1, _ => exact List.mem_of_getElem? (i := 91) (by decide +kernel)
  | 2, _ => exact List.mem_of_getElem? (i := 93) (by decide +kernel)
  | 3, _ => exact List.mem_of_getElem? (i := 95) (by decide +kernel)
  | 4, _ => exact List.mem_of_getElem? (i := 97) (by decide +kernel)
  | 5, _ => exact List.mem_of_getElem? (i := 99) (by decide +kernel)
  | 6, _ => exact List.mem_of_getElem? (i := 101) (by decide +kernel)
  | 7, _ => exact List.mem_of_getElem? (i := 103) (by decide +kernel)
  | k + 8, hk => exact absurd hk (by omega)
theorem un_X3 : Cond.instantiable RX3 8 ∈ lw_tbl := List.mem_of_getElem? (i := 76) (by decide +kernel)
theorem ul_X4 : ∀ w ∈ u_ws RX4 TX4 3, w ∈ lw_tbl := by
  intro w hw
  obtain ⟨k, hk, rfl⟩ := List.mem_map.mp hw
  have hk := List.mem_range.mp hk
  match k, hk with
  | 0, _ => exact List.mem_of_getElem? (i := 403) (by decide +kernel)
  | 1, _ => exact List.mem_of_getElem? (i := 405) (by decide +kernel)
  | 2, _ => exact List.mem_of_getElem? (i := 407) (by decide +kernel)
  | k + 3, hk => exact absurd hk (by omega)
theorem un_X4 : Cond.instantiable RX4 3 ∈ lw_tbl := List.mem_of_getElem? (i := 326) (by decide +kernel)
theorem ul_X6 : ∀ w ∈ u_ws RX6 TX6 10, w ∈ lw_tbl := by
  intro w hw
  obtain ⟨k, hk, rfl⟩ := List.mem_map.mp hw
  have hk := List.mem_range.mp hk
  match k, hk with
  | 0, _ => exact List.mem_of_getElem? (i := 123) (by decide +kernel)
  | 1, _ => exact List.mem_of_getElem? (i := 125) (by decide +kernel)
  | 2, _ => exact List.mem_of_getElem? (i := 127) (by decide +kernel)
  | 3, _ => exact List.mem_of_getElem? (i := 129) (by decide +kernel)
  | 4, _ => exact List.mem_of_getElem? (i := 131) (by decide +kernel)
  | 5, _ => exact List.mem_of_getElem? (i := 133) (by decide +kernel)
  | 6, _ => exact List.mem_of_getElem? (i := 135) (by decide +kernel)
  | 7, _ => exact List.mem_of_getElem? (i := 137) (by decide +kernel)
  | 8, _ => exact List.mem_of_getElem? (i := 139) (by decide +kernel)
  | 9, _ => exact List.mem_of_getElem? (i := 141) (by decide +kernel)
  | k + 10, hk => exact absurd hk (by omega)
theorem un_X6 : Cond.instantiable RX6 10 ∈ lw_tbl := List.mem_of_getElem? (i := 107) (by decide +kernel)
theorem ul_X8 : ∀ w ∈ u_ws RX8 TX8 17, w ∈ lw_tbl := by
  intro w hw
  obtain ⟨k, hk, rfl⟩ := List.mem_map.mp hw
  have hk := List.mem_range.mp hk
  match k, hk with
  | 0, _ => exact List.mem_of_getElem? (i := 192) (by decide +kernel)
  | 1, _ => exact List.mem_of_getElem? (i := 194) (by decide +kernel)
  | 2, _ => exact List.mem_of_getElem? (i := 196) (by decide +kernel)
  | 3, _ => exact List.mem_of_getElem? (i := 198) (by decide +kernel)
  | 4, _ => exact List.mem_of_getElem? (i := 200) (by decide +kernel)
  | 5, _ => exact List.mem_of_getElem? (i := 202) (by decide +kernel)
  | 6, _ => exact List.mem_of_getElem? (i := 204) (by decide +kernel)
  | 7, _ => exact List.mem_of_getElem? (i := 206) (by decide +kernel)
  | 8, _ => exact List.mem_of_getElem? (i := 208) (by decide +kernel)
  | 9, _ => exact List.mem_of_getElem? (i := 210) (by decide +kernel)
  | 10, _ => exact List.mem_of_getElem? (i := 212) (by decide +kernel)
  | 11, _ => exact List.mem_of_getElem? (i := 214) (by decide +kernel)
  | 12, _ => exact List.mem_of_getElem? (i := 216) (by decide +kernel)
  | 13, _ => exact List.mem_of_getElem? (i := 218) (by decide +kernel)
  | 14, _ => exact List.mem_of_getElem? (i := 220) (by decide +kernel)
  | 15, _ => exact List.mem_of_getElem? (i := 222) (by decide +kernel)
  | 16, _ => exact List.mem_of_getElem? (i := 224) (by decide +kernel)
  | k + 17, hk => exact absurd hk (by omega)
theorem un_X8 : Cond.instantiable RX8 17 ∈ lw_tbl := List.mem_of_getElem? (i := 44) (by decide +kernel)
section ENT
variable {args : Array Value} {s : State}
theorem en_cls (hts : ∀ w ∈ lw_tbl, w.before args s = true) : ∃ D : va_G, ∀ (c : Nat) (q : vw_C), clsL[c]? = some q → u_Kn s q.1 q.2.1 q.2.2 (D.1 c) (D.2 c) := by
  obtain ⟨c0, i0, h0⟩ := u_known (C := RX0) (T := TX0) (N := 4) (n := 4) hts ul_X0 (hts _ un_X0)
  obtain ⟨c1, i1, h1⟩ := u_known (C := RX1) (T := TX1) (N := 2) (n := 2) hts ul_X1 (hts _ un_X1)
  obtain ⟨c2, i2, h2⟩ := u_known (C := RX2) (T := TX2) (N := 3) (n := 3) hts ul_X2 (hts _ un_X2)
  obtain ⟨c3, i3, h3⟩ := u_known (C := RX3) (T := TX3) (N := 8) (n := 8) hts ul_X3 (hts _ un_X3)
  obtain ⟨c4, i4, h4⟩ := u_known (C := RX4) (T := TX4) (N := 3) (n := 3) hts ul_X4 (hts _ un_X4)
  obtain ⟨c6, i6, h6⟩ := u_known (C := RX6) (T := TX6) (N := 10) (n := 10) hts ul_X6 (hts _ un_X6)
  obtain ⟨c8, i8, h8⟩ := u_known (C := RX8) (T := TX8) (N := 17) (n := 17) hts ul_X8 (hts _ un_X8)
  refine ⟨(fun k => match k with | 0 => c0 | 1 => c1 | 2 => c2 | 3 => c3 | 4 => c4 | 5 => c6 | _ => c8, fun k => match k with | 0 => i0 | 1 => i1 | 2 => i2 | 3 => i3 | 4 => i4 | 5 => i6 | _ => i8), fun c q hq => ?_⟩
  match c, hq with
  | 0, hq => cases hq; exact h0
  | 1, hq => cases hq; exact h1
  | 2, hq => cases hq; exact h2
  | 3, hq => cases hq; exact h3
  | 4, hq => cases hq; exact h4
  | 5, hq => cases hq; exact h6
  | 6, hq => cases hq; exact h8
  | c + 7, hq => simp [clsL] at hq
theorem en_arr {t : FieldType} (h : (Cond.arrayClass t).before args s = true) : ∃ c : ClassId, s.vm.findClass ("[" ++ t.toString) = some c ∧ ArrOfT s c t := by
  obtain ⟨c, k, comp, h1, h2, h3⟩ := Cond.arrayClass_spec (args := args) (first := s) (o := none) (s := s) (idx := []) h
  exact ⟨c, h1, fun n z => ⟨fun k h => (by cases h), k, h2, comp, h3⟩⟩
theorem en_ty (hts : ∀ w ∈ lw_tbl, w.before args s = true) : ∃ E : Nat → ClassId, (∀ (k : Nat) (q : ClassId × FieldType), [(E 20, FieldType.byte), (E 22, .int), (E 22, .int), (E 23, .long), (E 23, .long), (E 25, .object RX4), (E 26, .array .long)][k]? = some q → ArrOfT s q.1 q.2 ∧ va_RA s q.1 q.2) ∧ ∃ kA : Class, s.vm.classes[E 26]? = some kA ∧ kA.kind = .array (E 23) (.array .long) := by
  obtain ⟨cB, b1, b2⟩ := en_arr (hts (.arrayClass .byte) (List.mem_of_getElem? (i := 72) (by decide +kernel)))
  obtain ⟨cI, i1, i2⟩ := en_arr (hts (.arrayClass .int) (List.mem_of_getElem? (i := 73) (by decide +kernel)))
  obtain ⟨cJ, j1, j2⟩ := en_arr (hts (.arrayClass .long) (List.mem_of_getElem? (i := 74) (by decide +kernel)))
  obtain ⟨cp, cF, kF, f1, f2, f3, f4, f5⟩ := Cond.arrayOver_spec (hts (.arrayOver (.object RX4)) (List.mem_of_getElem? (i := 52) (by decide +kernel)))
  obtain ⟨cq, cR, kR, r1, r2, r3, r4, r5⟩ := ao_spec (hts (.arrayOver (.array .long)) (List.mem_of_getElem? (i := 151) (by decide +kernel)))
  have e1 : cq = cJ := Option.some.inj (r1.symm.trans j1)
  subst e1
  refine ⟨fun k => match k with | 20 => cB | 22 => cI | 23 => cq | 25 => cF | _ => cR, fun k q hq => ?_, kR, r3, r4⟩
  match k, hq with
  | 0, hq => cases hq; exact ⟨b2, b1⟩
  | 1, hq => cases hq; exact ⟨i2, i1⟩
  | 2, hq => cases hq; exact ⟨i2, i1⟩
  | 3, hq => cases hq; exact ⟨j2, j1⟩
  | 4, hq => cases hq; exact ⟨j2, j1⟩
  | 5, hq => cases hq; exact ⟨fun n z => ⟨fun k h => (by cases h), kF, f3, cp, f4⟩, kF, cp, f3, f4, f1, f5⟩
  | 6, hq => cases hq; exact ⟨fun n z => ⟨fun k h => (by cases h), kR, r3, cq, r4⟩, r5⟩
  | k + 7, hq => simp at hq
theorem en_ng (hts : ∀ w ∈ lw_tbl, w.before args s = true) : NGs s := by
  intro w hw hk
  have h := hts w hw
  cases w <;> first | (simp [ngW] at hk; done) | exact va_Nw.of rfl h | exact h
/-- the read-only row of longs -/
theorem en_with (hs : ∀ c ∈ flatC (Jvm.Cond.and given_1 narrow_1), c.before args s = true) {A : Nat → Prop} (hA : ∀ a : Nat, a < s.heap.size → ¬ A a) : ∃ t : Nat, (Term.static "FamilyStore$Rows" "WITH" "[J").eval args s none [] s = some (.ref t) ∧ va_T .long t 6 (fun j => .long (withV j)) A s s.heap := by
  refine va_Tof (by decide) (hs _ (by decide +kernel)) (va_eqt (hs (Cond.eq (Term.length (Term.static "FamilyStore$Rows" "WITH" "[J")) (Term.int 6)) (by decide +kernel))) (fun j hj => ?_) hA
  match j, hj with
  | 0, _ => exact (va_eqtl (hs (Cond.eq (Term.elem (Term.static "FamilyStore$Rows" "WITH" "[J") (Term.int 0)) (Term.long (-6148914691236517206))) (by decide +kernel))).trans (by decide +kernel)
  | 1, _ => exact (va_eqtl (hs (Cond.eq (Term.elem (Term.static "FamilyStore$Rows" "WITH" "[J") (Term.int 1)) (Term.long (-3689348814741910324))) (by decide +kernel))).trans (by decide +kernel)
  | 2, _ => exact (va_eqtl (hs (Cond.eq (Term.elem (Term.static "FamilyStore$Rows" "WITH" "[J") (Term.int 2)) (Term.long (-1085102592571150096))) (by decide +kernel))).trans (by decide +kernel)
  | 3, _ => exact (va_eqtl (hs (Cond.eq (Term.elem (Term.static "FamilyStore$Rows" "WITH" "[J") (Term.int 3)) (Term.long (-71777214294589696))) (by decide +kernel))).trans (by decide +kernel)
  | 4, _ => exact (va_eqtl (hs (Cond.eq (Term.elem (Term.static "FamilyStore$Rows" "WITH" "[J") (Term.int 4)) (Term.long (-281470681808896))) (by decide +kernel))).trans (by decide +kernel)
  | 5, _ => exact (va_eqtl (hs (Cond.eq (Term.elem (Term.static "FamilyStore$Rows" "WITH" "[J") (Term.int 5)) (Term.long (-4294967296))) (by decide +kernel))).trans (by decide +kernel)
theorem arr_one {s : State} {cell : Cell} (h1 : s.isArrayOf cell .int) (h2 : s.isArrayOf cell .long) : False := by
  obtain ⟨-, k1, a1, c1, b1⟩ := h1
  obtain ⟨-, k2, a2, c2, b2⟩ := h2
  rw [a1] at a2
  cases Option.some.inj a2
  rw [b1] at b2
  cases b2
end ENT
/-- less room wanted -/
theorem room_less {s : State} {pl : Platform} {R R' : Room} (hf : R.frames ≤ R'.frames) (hl : R.locals ≤ R'.locals) (hcl : R.cells ≤ R'.cells) (hsl : R.slots ≤ R'.slots) (h : s.hasRoom pl R' = true) : s.hasRoom pl R = true := by
  simp only [State.hasRoom, Bool.and_eq_true, decide_eq_true_eq] at h ⊢
  obtain ⟨⟨⟨⟨h1, h2, h3, h4, h5, h6⟩, h7⟩, h8⟩, h9⟩ := h
  exact ⟨⟨⟨⟨by omega, by omega, by omega, by omega, by omega, h6⟩, by omega⟩, by omega⟩, h9⟩
section WR
variable {p : Program} {l : Launch} {e : Env} {R R' : Room} {s : State} {m : MethodId} {args : Array Value} {below : List Frame} {meth : Method} {c : Code} {H : Heap} {locs : List Loc} {cells slots : Nat} {Q Q' : State → Prop} {g : JFrame}
theorem w_room (hf : R.frames ≤ R'.frames) (hl : R.locals ≤ R'.locals) (hcl : R.cells ≤ R'.cells) (hsl : R.slots ≤ R'.slots) (k : W p l e R s m args below meth c H locs cells slots Q g) : W p l e R' s m args below meth c H locs cells slots Q g := fun T hT X =>
  k T hT ⟨X.admits, X.cas, X.clock, X.frames, room_less hf hl hcl hsl X.room, X.hears, X.method, X.code, X.here, X.tail, X.warmed, X.limits, X.bytes, X.same⟩
theorem w_post (h : ∀ t, Q t → Q' t) (k : W p l e R s m args below meth c H locs cells slots Q g) : W p l e R s m args below meth c H locs cells slots Q' g := fun T hT X => by
  obtain ⟨t, a, b⟩ := k T hT X
  exact ⟨t, a, h t b⟩
end WR
