/-! PURE RULES: an instruction that only the frame sees. -/
section RULES
variable {Γ : Gm} {M : MI} {d pc : Nat} {L : List (Option Value)} {st : List Value} {σ : AH} {Q : Oc → AH → Prop}
theorem EV.iadd (pc' : Nat) (hp : pc + 1 = pc') {x y : Int32} (hd : decode (mC M) pc = .ok (.iadd, 1))  (k : EV Γ M d pc' L (.int (x + y) :: st) σ Q) : EV Γ M d pc L (.int y :: .int x :: st) σ Q := by
  subst hp
  exact EV.pure0 (fun p e R s m args below meth c H locs cells slots Z ls C l w => lv_iadd C.1 C.2.1 hd  w) k
theorem EV.isub (pc' : Nat) (hp : pc + 1 = pc') {x y : Int32} (hd : decode (mC M) pc = .ok (.isub, 1))  (k : EV Γ M d pc' L (.int (x - y) :: st) σ Q) : EV Γ M d pc L (.int y :: .int x :: st) σ Q := by
  subst hp
  exact EV.pure0 (fun p e R s m args below meth c H locs cells slots Z ls C l w => lv_isub C.1 C.2.1 hd  w) k
theorem EV.imul (pc' : Nat) (hp : pc + 1 = pc') {x y : Int32} (hd : decode (mC M) pc = .ok (.imul, 1))  (k : EV Γ M d pc' L (.int (x * y) :: st) σ Q) : EV Γ M d pc L (.int y :: .int x :: st) σ Q := by
  subst hp
  exact EV.pure0 (fun p e R s m args below meth c H locs cells slots Z ls C l w => lv_imul C.1 C.2.1 hd  w) k
theorem EV.iand (pc' : Nat) (hp : pc + 1 = pc') {x y : Int32} (hd : decode (mC M) pc = .ok (.iand, 1))  (k : EV Γ M d pc' L (.int (x &&& y) :: st) σ Q) : EV Γ M d pc L (.int y :: .int x :: st) σ Q := by
  subst hp
  exact EV.pure0 (fun p e R s m args below meth c H locs cells slots Z ls C l w => lv_iand C.1 C.2.1 hd  w) k
theorem EV.ior (pc' : Nat) (hp : pc + 1 = pc') {x y : Int32} (hd : decode (mC M) pc = .ok (.ior, 1))  (k : EV Γ M d pc' L (.int (x ||| y) :: st) σ Q) : EV Γ M d pc L (.int y :: .int x :: st) σ Q := by
  subst hp
  exact EV.pure0 (fun p e R s m args below meth c H locs cells slots Z ls C l w => lv_ior C.1 C.2.1 hd  w) k
theorem EV.ixor (pc' : Nat) (hp : pc + 1 = pc') {x y : Int32} (hd : decode (mC M) pc = .ok (.ixor, 1))  (k : EV Γ M d pc' L (.int (x ^^^ y) :: st) σ Q) : EV Γ M d pc L (.int y :: .int x :: st) σ Q := by
  subst hp
  exact EV.pure0 (fun p e R s m args below meth c H locs cells slots Z ls C l w => lv_ixor C.1 C.2.1 hd  w) k
theorem EV.idiv (pc' : Nat) (hp : pc + 1 = pc') {x y : Int32} (hd : decode (mC M) pc = .ok (.idiv, 1)) (hn : ¬ y = 0) (k : EV Γ M d pc' L (.int (x / y) :: st) σ Q) : EV Γ M d pc L (.int y :: .int x :: st) σ Q := by
  subst hp
  exact EV.pure0 (fun p e R s m args below meth c H locs cells slots Z ls C l w => lv_idiv C.1 C.2.1 hd hn w) k
theorem EV.irem (pc' : Nat) (hp : pc + 1 = pc') {x y : Int32} (hd : decode (mC M) pc = .ok (.irem, 1)) (hn : ¬ y = 0) (k : EV Γ M d pc' L (.int (x - x / y * y) :: st) σ Q) : EV Γ M d pc L (.int y :: .int x :: st) σ Q := by
  subst hp
  exact EV.pure0 (fun p e R s m args below meth c H locs cells slots Z ls C l w => lv_irem C.1 C.2.1 hd hn w) k
theorem EV.ladd (pc' : Nat) (hp : pc + 1 = pc') {x y : Int64} (hd : decode (mC M) pc = .ok (.ladd, 1))  (k : EV Γ M d pc' L (.long (x + y) :: st) σ Q) : EV Γ M d pc L (.long y :: .long x :: st) σ Q := by
  subst hp
  exact EV.pure0 (fun p e R s m args below meth c H locs cells slots Z ls C l w => lv_ladd C.1 C.2.1 hd  w) k
theorem EV.lsub (pc' : Nat) (hp : pc + 1 = pc') {x y : Int64} (hd : decode (mC M) pc = .ok (.lsub, 1))  (k : EV Γ M d pc' L (.long (x - y) :: st) σ Q) : EV Γ M d pc L (.long y :: .long x :: st) σ Q := by
  subst hp
  exact EV.pure0 (fun p e R s m args below meth c H locs cells slots Z ls C l w => lv_lsub C.1 C.2.1 hd  w) k
theorem EV.lmul (pc' : Nat) (hp : pc + 1 = pc') {x y : Int64} (hd : decode (mC M) pc = .ok (.lmul, 1))  (k : EV Γ M d pc' L (.long (x * y) :: st) σ Q) : EV Γ M d pc L (.long y :: .long x :: st) σ Q := by
  subst hp
  exact EV.pure0 (fun p e R s m args below meth c H locs cells slots Z ls C l w => lv_lmul C.1 C.2.1 hd  w) k
theorem EV.land (pc' : Nat) (hp : pc + 1 = pc') {x y : Int64} (hd : decode (mC M) pc = .ok (.land, 1))  (k : EV Γ M d pc' L (.long (x &&& y) :: st) σ Q) : EV Γ M d pc L (.long y :: .long x :: st) σ Q := by
  subst hp
  exact EV.pure0 (fun p e R s m args below meth c H locs cells slots Z ls C l w => lv_land C.1 C.2.1 hd  w) k
theorem EV.lor (pc' : Nat) (hp : pc + 1 = pc') {x y : Int64} (hd : decode (mC M) pc = .ok (.lor, 1))  (k : EV Γ M d pc' L (.long (x ||| y) :: st) σ Q) : EV Γ M d pc L (.long y :: .long x :: st) σ Q := by
  subst hp
  exact EV.pure0 (fun p e R s m args below meth c H locs cells slots Z ls C l w => lv_lor C.1 C.2.1 hd  w) k
theorem EV.lxor (pc' : Nat) (hp : pc + 1 = pc') {x y : Int64} (hd : decode (mC M) pc = .ok (.lxor, 1))  (k : EV Γ M d pc' L (.long (x ^^^ y) :: st) σ Q) : EV Γ M d pc L (.long y :: .long x :: st) σ Q := by
  subst hp
  exact EV.pure0 (fun p e R s m args below meth c H locs cells slots Z ls C l w => lv_lxor C.1 C.2.1 hd  w) k
theorem EV.ishl (pc' : Nat) (hp : pc + 1 = pc') {x y : Int32} (hd : decode (mC M) pc = .ok (.ishl, 1))  (k : EV Γ M d pc' L (.int (x <<< (y &&& 31)) :: st) σ Q) : EV Γ M d pc L (.int y :: .int x :: st) σ Q := by
  subst hp
  exact EV.pure0 (fun p e R s m args below meth c H locs cells slots Z ls C l w => lv_ishl C.1 C.2.1 hd  w) k
theorem EV.ishr (pc' : Nat) (hp : pc + 1 = pc') {x y : Int32} (hd : decode (mC M) pc = .ok (.ishr, 1))  (k : EV Γ M d pc' L (.int (x >>> (y &&& 31)) :: st) σ Q) : EV Γ M d pc L (.int y :: .int x :: st) σ Q := by
  subst hp
  exact EV.pure0 (fun p e R s m args below meth c H locs cells slots Z ls C l w => lv_ishr C.1 C.2.1 hd  w) k
theorem EV.iushr (pc' : Nat) (hp : pc + 1 = pc') {x y : Int32} (hd : decode (mC M) pc = .ok (.iushr, 1))  (k : EV Γ M d pc' L (.int (x.toUInt32 >>> (y.toUInt32 &&& Int32.toUInt32 31)).toInt32 :: st) σ Q) : EV Γ M d pc L (.int y :: .int x :: st) σ Q := by
  subst hp
  exact EV.pure0 (fun p e R s m args below meth c H locs cells slots Z ls C l w => lv_iushr C.1 C.2.1 hd rfl w) k
theorem EV.lshl (pc' : Nat) (hp : pc + 1 = pc') {x : Int64} {y : Int32} (hd : decode (mC M) pc = .ok (.lshl, 1))  (k : EV Γ M d pc' L (.long (x <<< (y.toInt64 &&& 63)) :: st) σ Q) : EV Γ M d pc L (.int y :: .long x :: st) σ Q := by
  subst hp
  exact EV.pure0 (fun p e R s m args below meth c H locs cells slots Z ls C l w => lv_lshl C.1 C.2.1 hd rfl w) k
theorem EV.lshr (pc' : Nat) (hp : pc + 1 = pc') {x : Int64} {y : Int32} (hd : decode (mC M) pc = .ok (.lshr, 1))  (k : EV Γ M d pc' L (.long (x >>> (y.toInt64 &&& 63)) :: st) σ Q) : EV Γ M d pc L (.int y :: .long x :: st) σ Q := by
  subst hp
  exact EV.pure0 (fun p e R s m args below meth c H locs cells slots Z ls C l w => lv_lshr C.1 C.2.1 hd rfl w) k
theorem EV.lushr (pc' : Nat) (hp : pc + 1 = pc') {x : Int64} {y : Int32} (hd : decode (mC M) pc = .ok (.lushr, 1))  (k : EV Γ M d pc' L (.long (x.toUInt64 >>> (y.toInt64.toUInt64 &&& Int64.toUInt64 63)).toInt64 :: st) σ Q) : EV Γ M d pc L (.int y :: .long x :: st) σ Q := by
  subst hp
  exact EV.pure0 (fun p e R s m args below meth c H locs cells slots Z ls C l w => lv_lushr C.1 C.2.1 hd rfl w) k
theorem EV.i2l (pc' : Nat) (hp : pc + 1 = pc') {x : Int32} (hd : decode (mC M) pc = .ok (.i2l, 1))  (k : EV Γ M d pc' L (.long x.toInt64 :: st) σ Q) : EV Γ M d pc L (.int x :: st) σ Q := by
  subst hp
  exact EV.pure0 (fun p e R s m args below meth c H locs cells slots Z ls C l w => lv_i2l C.1 C.2.1 hd rfl w) k
theorem EV.l2i (pc' : Nat) (hp : pc + 1 = pc') {x : Int64} (hd : decode (mC M) pc = .ok (.l2i, 1))  (k : EV Γ M d pc' L (.int x.toInt32 :: st) σ Q) : EV Γ M d pc L (.long x :: st) σ Q := by
  subst hp
  exact EV.pure0 (fun p e R s m args below meth c H locs cells slots Z ls C l w => lv_l2i C.1 C.2.1 hd rfl w) k
theorem EV.i2b (pc' : Nat) (hp : pc + 1 = pc') {x : Int32} (hd : decode (mC M) pc = .ok (.i2b, 1))  (k : EV Γ M d pc' L (.int x.toInt8.toInt32 :: st) σ Q) : EV Γ M d pc L (.int x :: st) σ Q := by
  subst hp
  exact EV.pure0 (fun p e R s m args below meth c H locs cells slots Z ls C l w => lv_i2b C.1 C.2.1 hd rfl w) k
theorem EV.i2d (pc' : Nat) (hp : pc + 1 = pc') {x : Int32} (hd : decode (mC M) pc = .ok (.i2d, 1))  (k : EV Γ M d pc' L (.double (FP.i2d x) :: st) σ Q) : EV Γ M d pc L (.int x :: st) σ Q := by
  subst hp
  exact EV.pure0 (fun p e R s m args below meth c H locs cells slots Z ls C l w => lv_i2d C.1 C.2.1 hd  w) k
theorem EV.l2d (pc' : Nat) (hp : pc + 1 = pc') {x : Int64} (hd : decode (mC M) pc = .ok (.l2d, 1))  (k : EV Γ M d pc' L (.double (FP.l2d x) :: st) σ Q) : EV Γ M d pc L (.long x :: st) σ Q := by
  subst hp
  exact EV.pure0 (fun p e R s m args below meth c H locs cells slots Z ls C l w => lv_l2d C.1 C.2.1 hd  w) k
theorem EV.ddiv (pc' : Nat) (hp : pc + 1 = pc') {x y : UInt64} (hd : decode (mC M) pc = .ok (.ddiv, 1)) (hn : vf_n64 (FP.ddiv x y)) (k : EV Γ M d pc' L (.double (FP.ddiv x y) :: st) σ Q) : EV Γ M d pc L (.double y :: .double x :: st) σ Q := by
  subst hp
  exact EV.pure0 (fun p e R s m args below meth c H locs cells slots Z ls C l w => lv_ddiv C.1 C.2.1 hd hn w) k
theorem EV.dcmp (pc' : Nat) (hp : pc + 1 = pc') {x y : UInt64} {op : CmpOp} (hd : decode (mC M) pc = .ok (.dcmp op, 1))  (k : EV Γ M d pc' L (.int (Op.cmpValue (FP.dcmp x y) op) :: st) σ Q) : EV Γ M d pc L (.double y :: .double x :: st) σ Q := by
  subst hp
  exact EV.pure0 (fun p e R s m args below meth c H locs cells slots Z ls C l w => lv_dcmp C.1 C.2.1 hd  w) k
theorem EV.lcmp (pc' : Nat) (hp : pc + 1 = pc') {x y : Int64} (hd : decode (mC M) pc = .ok (.lcmp, 1)) (k : EV Γ M d pc' L (.int (lg_cmp x y) :: st) σ Q) : EV Γ M d pc L (.long y :: .long x :: st) σ Q := by
  subst hp
  exact EV.pure0 (fun p e R s m args below meth c H locs cells slots Z ls C l w => W.lcmp C.1 C.2.1 hd w) k
theorem EV.iconst (pc' : Nat) (hp : pc + 1 = pc') {n : Int} {v : Int32} (hd : decode (mC M) pc = .ok (.iconst n, 1)) (hv : Int32.ofInt n = v) (k : EV Γ M d pc' L (.int v :: st) σ Q) : EV Γ M d pc L (st) σ Q := by
  subst hp
  exact EV.pure0 (fun p e R s m args below meth c H locs cells slots Z ls C l w => lv_iconst C.1 C.2.1 hd hv w) k
theorem EV.bipush (pc' : Nat) (hp : pc + 2 = pc') {n : Int} {v : Int32} (hd : decode (mC M) pc = .ok (.bipush n, 2)) (hv : (Int8.ofInt n).toInt32 = v) (k : EV Γ M d pc' L (.int v :: st) σ Q) : EV Γ M d pc L (st) σ Q := by
  subst hp
  exact EV.pure0 (fun p e R s m args below meth c H locs cells slots Z ls C l w => lv_bipush C.1 C.2.1 hd hv w) k
theorem EV.sipush (pc' : Nat) (hp : pc + 3 = pc') {n : Int} {v : Int32} (hd : decode (mC M) pc = .ok (.sipush n, 3)) (hv : (Int16.ofInt n).toInt32 = v) (k : EV Γ M d pc' L (.int v :: st) σ Q) : EV Γ M d pc L (st) σ Q := by
  subst hp
  exact EV.pure0 (fun p e R s m args below meth c H locs cells slots Z ls C l w => lv_sipush C.1 C.2.1 hd hv w) k
theorem EV.lconst (pc' : Nat) (hp : pc + 1 = pc') {n : Fin 2} {v : Int64} (hd : decode (mC M) pc = .ok (.lconst n, 1)) (hv : Int64.ofNat (n : Nat) = v) (k : EV Γ M d pc' L (.long v :: st) σ Q) : EV Γ M d pc L (st) σ Q := by
  subst hp
  exact EV.pure0 (fun p e R s m args below meth c H locs cells slots Z ls C l w => lv_lconst C.1 C.2.1 hd hv w) k
theorem EV.dconst0 (pc' : Nat) (hp : pc + 1 = pc')  (hd : decode (mC M) pc = .ok (.dconst 0, 1))  (k : EV Γ M d pc' L (.double FP.dconst0 :: st) σ Q) : EV Γ M d pc L (st) σ Q := by
  subst hp
  exact EV.pure0 (fun p e R s m args below meth c H locs cells slots Z ls C l w => lv_dconst0 C.1 C.2.1 hd  w) k
theorem EV.aconst_null (pc' : Nat) (hp : pc + 1 = pc')  (hd : decode (mC M) pc = .ok (.aconst_null, 1))  (k : EV Γ M d pc' L (.null :: st) σ Q) : EV Γ M d pc L (st) σ Q := by
  subst hp
  exact EV.pure0 (fun p e R s m args below meth c H locs cells slots Z ls C l w => lv_null C.1 C.2.1 hd  w) k
theorem EV.ldc (pc' : Nat) (hp : pc + 2 = pc') {n : Nat} {v : Int32} (hw : Cond.constant (mY M).cls n v ∈ AW) (hd : decode (mC M) pc = .ok (.ldc n, 2)) (k : EV Γ M d pc' L (.int v :: st) σ Q) : EV Γ M d pc L st σ Q := by
  subst hp
  exact EV.pure0 (fun p e R s m args below meth c H locs cells slots Z ls C l w => lv_ldc C.1 C.2.1 C.2.2.2.1 (C.2.2.2.2.2.2.2.2.1 _ hw) hd w) k
theorem EV.ldcw (pc' : Nat) (hp : pc + 3 = pc') {n : Nat} {v : Int32} (hw : Cond.constant (mY M).cls n v ∈ AW) (hd : decode (mC M) pc = .ok (.ldc_w n, 3)) (k : EV Γ M d pc' L (.int v :: st) σ Q) : EV Γ M d pc L st σ Q := by
  subst hp
  exact EV.pure0 (fun p e R s m args below meth c H locs cells slots Z ls C l w => lv_ldcw C.1 C.2.1 C.2.2.2.1 (C.2.2.2.2.2.2.2.2.1 _ hw) hd w) k
theorem EV.ldc2 (pc' : Nat) (hp : pc + 3 = pc') {n : Nat} {v : Int64} (hw : Cond.constantLong (mY M).cls n v ∈ AW) (hd : decode (mC M) pc = .ok (.ldc2_w n, 3)) (k : EV Γ M d pc' L (.long v :: st) σ Q) : EV Γ M d pc L st σ Q := by
  subst hp
  exact EV.pure0 (fun p e R s m args below meth c H locs cells slots Z ls C l w => lv_ldc2 C.1 C.2.1 C.2.2.2.1 (C.2.2.2.2.2.2.2.2.1 _ hw) hd w) k
theorem EV.iload (pc' : Nat) (hp : pc + 2 = pc') {i : Nat} {x : Int32} (hl : L[i]? = some (some (.int x))) (hd : decode (mC M) pc = .ok (.iload i, 2)) (k : EV Γ M d pc' L (.int x :: st) σ Q) : EV Γ M d pc L st σ Q := by
  subst hp
  exact EV.pure0 (fun p e R s m args below meth c H locs cells slots Z ls C l w => lv_iload C.1 C.2.1 hd (l.at hl) w) k
theorem EV.iload_n (pc' : Nat) (hp : pc + 1 = pc') (i : Nat) {j : Fin 4} {x : Int32} (hi : (j : Nat) = i) (hl : L[i]? = some (some (.int x))) (hd : decode (mC M) pc = .ok (.iload_n j, 1)) (k : EV Γ M d pc' L (.int x :: st) σ Q) : EV Γ M d pc L st σ Q := by
  subst hp
  exact EV.pure0 (fun p e R s m args below meth c H locs cells slots Z ls C l w => lv_iload_n C.1 C.2.1 hd hi (l.at hl) w) k
theorem EV.lload (pc' : Nat) (hp : pc + 2 = pc') {i : Nat} {x : Int64} (hl : L[i]? = some (some (.long x))) (hd : decode (mC M) pc = .ok (.lload i, 2)) (k : EV Γ M d pc' L (.long x :: st) σ Q) : EV Γ M d pc L st σ Q := by
  subst hp
  exact EV.pure0 (fun p e R s m args below meth c H locs cells slots Z ls C l w => lv_lload C.1 C.2.1 hd (l.at hl) w) k
theorem EV.lload_n (pc' : Nat) (hp : pc + 1 = pc') (i : Nat) {j : Fin 4} {x : Int64} (hi : (j : Nat) = i) (hl : L[i]? = some (some (.long x))) (hd : decode (mC M) pc = .ok (.lload_n j, 1)) (k : EV Γ M d pc' L (.long x :: st) σ Q) : EV Γ M d pc L st σ Q := by
  subst hp
  exact EV.pure0 (fun p e R s m args below meth c H locs cells slots Z ls C l w => lv_lload_n C.1 C.2.1 hd hi (l.at hl) w) k
theorem EV.dload (pc' : Nat) (hp : pc + 2 = pc') {i : Nat} {x : UInt64} (hl : L[i]? = some (some (.double x))) (hd : decode (mC M) pc = .ok (.dload i, 2)) (k : EV Γ M d pc' L (.double x :: st) σ Q) : EV Γ M d pc L st σ Q := by
  subst hp
  exact EV.pure0 (fun p e R s m args below meth c H locs cells slots Z ls C l w => lv_dload C.1 C.2.1 hd (l.at hl) w) k
theorem EV.dload_n (pc' : Nat) (hp : pc + 1 = pc') (i : Nat) {j : Fin 4} {x : UInt64} (hi : (j : Nat) = i) (hl : L[i]? = some (some (.double x))) (hd : decode (mC M) pc = .ok (.dload_n j, 1)) (k : EV Γ M d pc' L (.double x :: st) σ Q) : EV Γ M d pc L st σ Q := by
  subst hp
  exact EV.pure0 (fun p e R s m args below meth c H locs cells slots Z ls C l w => lv_dload_n C.1 C.2.1 hd hi (l.at hl) w) k
theorem EV.aload (pc' : Nat) (hp : pc + 2 = pc') {i : Nat} {x : Nat} (hl : L[i]? = some (some (.ref x))) (hd : decode (mC M) pc = .ok (.aload i, 2)) (k : EV Γ M d pc' L (.ref x :: st) σ Q) : EV Γ M d pc L st σ Q := by
  subst hp
  exact EV.pure0 (fun p e R s m args below meth c H locs cells slots Z ls C l w => lv_aload C.1 C.2.1 hd (l.at hl) w) k
theorem EV.aload_n (pc' : Nat) (hp : pc + 1 = pc') (i : Nat) {j : Fin 4} {x : Nat} (hi : (j : Nat) = i) (hl : L[i]? = some (some (.ref x))) (hd : decode (mC M) pc = .ok (.aload_n j, 1)) (k : EV Γ M d pc' L (.ref x :: st) σ Q) : EV Γ M d pc L st σ Q := by
  subst hp
  exact EV.pure0 (fun p e R s m args below meth c H locs cells slots Z ls C l w => lv_aload_n C.1 C.2.1 hd hi (l.at hl) w) k
theorem EV.aloadQ (pc' : Nat) (hp : pc + 2 = pc') {i : Nat} {r : Option Nat} (hl : L[i]? = some (some (va_rf r))) (hd : decode (mC M) pc = .ok (.aload i, 2)) (k : EV Γ M d pc' L (va_rf r :: st) σ Q) : EV Γ M d pc L st σ Q := by
  subst hp
  cases r with
  | none => exact EV.pure0 (fun p e R s m args below meth c H locs cells slots Z ls C l w => lv_aloadN C.1 C.2.1 hd (l.at hl) w) k
  | some t => exact EV.pure0 (fun p e R s m args below meth c H locs cells slots Z ls C l w => lv_aload C.1 C.2.1 hd (l.at hl) w) k
theorem EV.aload_nQ (pc' : Nat) (hp : pc + 1 = pc') (i : Nat) {j : Fin 4} {r : Option Nat} (hi : (j : Nat) = i) (hl : L[i]? = some (some (va_rf r))) (hd : decode (mC M) pc = .ok (.aload_n j, 1)) (k : EV Γ M d pc' L (va_rf r :: st) σ Q) : EV Γ M d pc L st σ Q := by
  subst hp
  cases r with
  | none => exact EV.pure0 (fun p e R s m args below meth c H locs cells slots Z ls C l w => lv_aload_nN C.1 C.2.1 hd hi (l.at hl) w) k
  | some t => exact EV.pure0 (fun p e R s m args below meth c H locs cells slots Z ls C l w => lv_aload_n C.1 C.2.1 hd hi (l.at hl) w) k
theorem EV.istore (pc' : Nat) (hp : pc + 2 = pc') (L' : List (Option Value)) {i : Nat} {x : Int32} (hn : i < mN M) (hl : st1 L i (.int x) = L') (hd : decode (mC M) pc = .ok (.istore i, 2)) (k : EV Γ M d pc' L' st σ Q) : EV Γ M d pc L (.int x :: st) σ Q := by
  subst hp; subst hl
  exact EV.pure (fun p e R s m args below meth c H locs cells slots Z ls C l w => lv_istore C.1 C.2.1 hd l hn rfl (fun ls' l' => w ls' (lvh.st1 l'))) k
theorem EV.istore_n (pc' : Nat) (hp : pc + 1 = pc') (i : Nat) (L' : List (Option Value)) {j : Fin 4} {x : Int32} (hi : (j : Nat) = i) (hn : i < mN M) (hl : st1 L i (.int x) = L') (hd : decode (mC M) pc = .ok (.istore_n j, 1)) (k : EV Γ M d pc' L' st σ Q) : EV Γ M d pc L (.int x :: st) σ Q := by
  subst hp; subst hl
  exact EV.pure (fun p e R s m args below meth c H locs cells slots Z ls C l w => lv_istore_n C.1 C.2.1 hd hi l hn rfl (fun ls' l' => w ls' (lvh.st1 l'))) k
theorem EV.lstore (pc' : Nat) (hp : pc + 2 = pc') (L' : List (Option Value)) {i : Nat} {x : Int64} (hn : i + 1 < mN M) (hl : st2 L i (.long x) = L') (hd : decode (mC M) pc = .ok (.lstore i, 2)) (k : EV Γ M d pc' L' st σ Q) : EV Γ M d pc L (.long x :: st) σ Q := by
  subst hp; subst hl
  exact EV.pure (fun p e R s m args below meth c H locs cells slots Z ls C l w => lv_lstore C.1 C.2.1 hd l hn rfl (fun ls' l' => w ls' (lvh.st2 l'))) k
theorem EV.lstore_n (pc' : Nat) (hp : pc + 1 = pc') (i : Nat) (L' : List (Option Value)) {j : Fin 4} {x : Int64} (hi : (j : Nat) = i) (hn : i + 1 < mN M) (hl : st2 L i (.long x) = L') (hd : decode (mC M) pc = .ok (.lstore_n j, 1)) (k : EV Γ M d pc' L' st σ Q) : EV Γ M d pc L (.long x :: st) σ Q := by
  subst hp; subst hl
  exact EV.pure (fun p e R s m args below meth c H locs cells slots Z ls C l w => lv_lstore_n C.1 C.2.1 hd hi l hn rfl (fun ls' l' => w ls' (lvh.st2 l'))) k
theorem EV.dstore (pc' : Nat) (hp : pc + 2 = pc') (L' : List (Option Value)) {i : Nat} {x : UInt64} (hn : i + 1 < mN M) (hl : st2 L i (.double x) = L') (hd : decode (mC M) pc = .ok (.dstore i, 2)) (k : EV Γ M d pc' L' st σ Q) : EV Γ M d pc L (.double x :: st) σ Q := by
  subst hp; subst hl
  exact EV.pure (fun p e R s m args below meth c H locs cells slots Z ls C l w => lv_dstore C.1 C.2.1 hd l hn rfl (fun ls' l' => w ls' (lvh.st2 l'))) k
theorem EV.astore (pc' : Nat) (hp : pc + 2 = pc') (L' : List (Option Value)) {i : Nat} {x : Nat} (hn : i < mN M) (hl : st1 L i (.ref x) = L') (hd : decode (mC M) pc = .ok (.astore i, 2)) (k : EV Γ M d pc' L' st σ Q) : EV Γ M d pc L (.ref x :: st) σ Q := by
  subst hp; subst hl
  exact EV.pure (fun p e R s m args below meth c H locs cells slots Z ls C l w => lv_astore C.1 C.2.1 hd l hn rfl (fun ls' l' => w ls' (lvh.st1 l'))) k
theorem EV.astore_n (pc' : Nat) (hp : pc + 1 = pc') (i : Nat) (L' : List (Option Value)) {j : Fin 4} {x : Nat} (hi : (j : Nat) = i) (hn : i < mN M) (hl : st1 L i (.ref x) = L') (hd : decode (mC M) pc = .ok (.astore_n j, 1)) (k : EV Γ M d pc' L' st σ Q) : EV Γ M d pc L (.ref x :: st) σ Q := by
  subst hp; subst hl
  exact EV.pure (fun p e R s m args below meth c H locs cells slots Z ls C l w => lv_astore_n C.1 C.2.1 hd hi l hn rfl (fun ls' l' => w ls' (lvh.st1 l'))) k
theorem EV.astoreQ (pc' : Nat) (hp : pc + 2 = pc') (L' : List (Option Value)) {i : Nat} {r : Option Nat} (hn : i < mN M) (hl : st1 L i (va_rf r) = L') (hd : decode (mC M) pc = .ok (.astore i, 2)) (k : EV Γ M d pc' L' st σ Q) : EV Γ M d pc L (va_rf r :: st) σ Q := by
  subst hp; subst hl
  cases r with
  | none => exact EV.pure (fun p e R s m args below meth c H locs cells slots Z ls C l w => lv_astoreN C.1 C.2.1 hd l hn rfl (fun ls' l' => w ls' (lvh.st1 l'))) k
  | some t => exact EV.pure (fun p e R s m args below meth c H locs cells slots Z ls C l w => lv_astore C.1 C.2.1 hd l hn rfl (fun ls' l' => w ls' (lvh.st1 l'))) k
theorem EV.astore_nQ (pc' : Nat) (hp : pc + 1 = pc') (i : Nat) (L' : List (Option Value)) {j : Fin 4} {r : Option Nat} (hi : (j : Nat) = i) (hn : i < mN M) (hl : st1 L i (va_rf r) = L') (hd : decode (mC M) pc = .ok (.astore_n j, 1)) (k : EV Γ M d pc' L' st σ Q) : EV Γ M d pc L (va_rf r :: st) σ Q := by
  subst hp; subst hl
  cases r with
  | none => exact EV.pure (fun p e R s m args below meth c H locs cells slots Z ls C l w => lv_astore_nN C.1 C.2.1 hd hi l hn rfl (fun ls' l' => w ls' (lvh.st1 l'))) k
  | some t => exact EV.pure (fun p e R s m args below meth c H locs cells slots Z ls C l w => lv_astore_n C.1 C.2.1 hd hi l hn rfl (fun ls' l' => w ls' (lvh.st1 l'))) k
theorem EV.iinc (pc' : Nat) (hp : pc + 3 = pc') (L' : List (Option Value)) {i : Nat} {n : Int} {x v : Int32} (hv : Int32.ofInt n = v) (hn : i < mN M) (hx : L[i]? = some (some (.int x))) (hl : st1 L i (.int (x + v)) = L') (hd : decode (mC M) pc = .ok (.iinc i n, 3)) (k : EV Γ M d pc' L' st σ Q) : EV Γ M d pc L st σ Q := by
  subst hp; subst hl; subst hv
  refine EV.pure (fun p e R s m args below meth c H locs cells slots Z ls C l w => ?_) k
  obtain ⟨kx, hkx⟩ := List.getElem?_of_mem ((lvp_mem L 0 (i, Value.int x)).mpr ⟨i, by simp, hx⟩)
  exact lv_iinc C.1 C.2.1 hd l hkx rfl hn rfl (fun ls' l' => w ls' (lvh.st1 l'))
theorem EV.dup (pc' : Nat) (hp : pc + 1 = pc') {v : Value} (hd : decode (mC M) pc = .ok (.dup, 1)) (hv : v.category = 1) (k : EV Γ M d pc' L (v :: v :: st) σ Q) : EV Γ M d pc L (v :: st) σ Q := by
  subst hp
  exact EV.pure0 (fun p e R s m args below meth c H locs cells slots Z ls C l w => lv_dup C.1 C.2.1 hd hv w) k
theorem EV.pop (pc' : Nat) (hp : pc + 1 = pc') {v : Value} (hd : decode (mC M) pc = .ok (.pop, 1)) (hv : v.category = 1) (k : EV Γ M d pc' L (st) σ Q) : EV Γ M d pc L (v :: st) σ Q := by
  subst hp
  exact EV.pure0 (fun p e R s m args below meth c H locs cells slots Z ls C l w => lv_pop C.1 C.2.1 hd hv w) k
theorem EV.dup2 (pc' : Nat) (hp : pc + 1 = pc') {v w : Value} (hd : decode (mC M) pc = .ok (.dup2, 1)) (hv : v.category = 1) (hw : w.category = 1) (k : EV Γ M d pc' L (v :: w :: v :: w :: st) σ Q) : EV Γ M d pc L (v :: w :: st) σ Q := by
  subst hp
  exact EV.pure0 (fun p e R s m args below meth c H locs cells slots Z ls C l w => lv_dup2_11 C.1 C.2.1 hd hv hw w) k
theorem EV.goto (tgt : Nat) {off : Int} (ht : (pc : Int) + off = (tgt : Int)) (hd : decode (mC M) pc = .ok (.goto off, 3)) (k : EV Γ M d tgt L st σ Q) : EV Γ M d pc L st σ Q :=
  EV.pure0 (fun p e R s m args below meth c H locs cells slots Z ls C l w => lv_goto C.1 C.2.1 hd ht w) k
theorem EV.icmp_eq (pc' tgt : Nat) (hp : pc + 3 = pc') {x y : Int32} {off : Int} (ht : (pc : Int) + off = (tgt : Int)) (hd : decode (mC M) pc = .ok (.if_icmp .eq off, 3)) (kt : x = y → EV Γ M d tgt L st σ Q) (kf : ¬ x = y → EV Γ M d pc' L st σ Q) : EV Γ M d pc L (.int y :: .int x :: st) σ Q := by
  subst hp
  by_cases h : x = y
  · exact EV.pure0 (fun p e R s m args below meth c H locs cells slots Z ls C l w => lv_icmp_eq C.1 C.2.1 hd ht (fun _ => w) (fun h' => absurd h h')) (kt h)
  · exact EV.pure0 (fun p e R s m args below meth c H locs cells slots Z ls C l w => lv_icmp_eq C.1 C.2.1 hd ht (fun h' => absurd h' h) (fun _ => w)) (kf (h))
theorem EV.if_eq (pc' tgt : Nat) (hp : pc + 3 = pc') {x : Int32} {off : Int} (ht : (pc : Int) + off = (tgt : Int)) (hd : decode (mC M) pc = .ok (.ifCond .eq off, 3)) (kt : x = 0 → EV Γ M d tgt L st σ Q) (kf : ¬ x = 0 → EV Γ M d pc' L st σ Q) : EV Γ M d pc L (.int x :: st) σ Q := by
  subst hp
  by_cases h : x = 0
  · exact EV.pure0 (fun p e R s m args below meth c H locs cells slots Z ls C l w => lv_if_eq C.1 C.2.1 hd ht (fun _ => w) (fun h' => absurd h h')) (kt h)
  · exact EV.pure0 (fun p e R s m args below meth c H locs cells slots Z ls C l w => lv_if_eq C.1 C.2.1 hd ht (fun h' => absurd h' h) (fun _ => w)) (kf (h))
theorem EV.icmp_ne (pc' tgt : Nat) (hp : pc + 3 = pc') {x y : Int32} {off : Int} (ht : (pc : Int) + off = (tgt : Int)) (hd : decode (mC M) pc = .ok (.if_icmp .ne off, 3)) (kt : x ≠ y → EV Γ M d tgt L st σ Q) (kf : x = y → EV Γ M d pc' L st σ Q) : EV Γ M d pc L (.int y :: .int x :: st) σ Q := by
  subst hp
  by_cases h : x ≠ y
  · exact EV.pure0 (fun p e R s m args below meth c H locs cells slots Z ls C l w => lv_icmp_ne C.1 C.2.1 hd ht (fun _ => w) (fun h' => absurd h' h)) (kt h)
  · exact EV.pure0 (fun p e R s m args below meth c H locs cells slots Z ls C l w => lv_icmp_ne C.1 C.2.1 hd ht (fun h' => absurd h' h) (fun _ => w)) (kf (Classical.not_not.mp h))
theorem EV.if_ne (pc' tgt : Nat) (hp : pc + 3 = pc') {x : Int32} {off : Int} (ht : (pc : Int) + off = (tgt : Int)) (hd : decode (mC M) pc = .ok (.ifCond .ne off, 3)) (kt : x ≠ 0 → EV Γ M d tgt L st σ Q) (kf : x = 0 → EV Γ M d pc' L st σ Q) : EV Γ M d pc L (.int x :: st) σ Q := by
  subst hp
  by_cases h : x ≠ 0
  · exact EV.pure0 (fun p e R s m args below meth c H locs cells slots Z ls C l w => lv_if_ne C.1 C.2.1 hd ht (fun _ => w) (fun h' => absurd h' h)) (kt h)
  · exact EV.pure0 (fun p e R s m args below meth c H locs cells slots Z ls C l w => lv_if_ne C.1 C.2.1 hd ht (fun h' => absurd h' h) (fun _ => w)) (kf (Classical.not_not.mp h))
theorem EV.icmp_lt (pc' tgt : Nat) (hp : pc + 3 = pc') {x y : Int32} {off : Int} (ht : (pc : Int) + off = (tgt : Int)) (hd : decode (mC M) pc = .ok (.if_icmp .lt off, 3)) (kt : x < y → EV Γ M d tgt L st σ Q) (kf : ¬ x < y → EV Γ M d pc' L st σ Q) : EV Γ M d pc L (.int y :: .int x :: st) σ Q := by
  subst hp
  by_cases h : x < y
  · exact EV.pure0 (fun p e R s m args below meth c H locs cells slots Z ls C l w => lv_icmp_lt C.1 C.2.1 hd ht (fun _ => w) (fun h' => absurd h h')) (kt h)
  · exact EV.pure0 (fun p e R s m args below meth c H locs cells slots Z ls C l w => lv_icmp_lt C.1 C.2.1 hd ht (fun h' => absurd h' h) (fun _ => w)) (kf (h))
theorem EV.if_lt (pc' tgt : Nat) (hp : pc + 3 = pc') {x : Int32} {off : Int} (ht : (pc : Int) + off = (tgt : Int)) (hd : decode (mC M) pc = .ok (.ifCond .lt off, 3)) (kt : x < 0 → EV Γ M d tgt L st σ Q) (kf : ¬ x < 0 → EV Γ M d pc' L st σ Q) : EV Γ M d pc L (.int x :: st) σ Q := by
  subst hp
  by_cases h : x < 0
  · exact EV.pure0 (fun p e R s m args below meth c H locs cells slots Z ls C l w => lv_if_lt C.1 C.2.1 hd ht (fun _ => w) (fun h' => absurd h h')) (kt h)
  · exact EV.pure0 (fun p e R s m args below meth c H locs cells slots Z ls C l w => lv_if_lt C.1 C.2.1 hd ht (fun h' => absurd h' h) (fun _ => w)) (kf (h))
theorem EV.icmp_ge (pc' tgt : Nat) (hp : pc + 3 = pc') {x y : Int32} {off : Int} (ht : (pc : Int) + off = (tgt : Int)) (hd : decode (mC M) pc = .ok (.if_icmp .ge off, 3)) (kt : y ≤ x → EV Γ M d tgt L st σ Q) (kf : ¬ y ≤ x → EV Γ M d pc' L st σ Q) : EV Γ M d pc L (.int y :: .int x :: st) σ Q := by
  subst hp
  by_cases h : y ≤ x
  · exact EV.pure0 (fun p e R s m args below meth c H locs cells slots Z ls C l w => lv_icmp_ge C.1 C.2.1 hd ht (fun _ => w) (fun h' => absurd h h')) (kt h)
  · exact EV.pure0 (fun p e R s m args below meth c H locs cells slots Z ls C l w => lv_icmp_ge C.1 C.2.1 hd ht (fun h' => absurd h' h) (fun _ => w)) (kf (h))
theorem EV.if_ge (pc' tgt : Nat) (hp : pc + 3 = pc') {x : Int32} {off : Int} (ht : (pc : Int) + off = (tgt : Int)) (hd : decode (mC M) pc = .ok (.ifCond .ge off, 3)) (kt : 0 ≤ x → EV Γ M d tgt L st σ Q) (kf : ¬ 0 ≤ x → EV Γ M d pc' L st σ Q) : EV Γ M d pc L (.int x :: st) σ Q := by
  subst hp
  by_cases h : 0 ≤ x
  · exact EV.pure0 (fun p e R s m args below meth c H locs cells slots Z ls C l w => lv_if_ge C.1 C.2.1 hd ht (fun _ => w) (fun h' => absurd h h')) (kt h)
  · exact EV.pure0 (fun p e R s m args below meth c H locs cells slots Z ls C l w => lv_if_ge C.1 C.2.1 hd ht (fun h' => absurd h' h) (fun _ => w)) (kf (h))
theorem EV.icmp_gt (pc' tgt : Nat) (hp : pc + 3 = pc') {x y : Int32} {off : Int} (ht : (pc : Int) + off = (tgt : Int)) (hd : decode (mC M) pc = .ok (.if_icmp .gt off, 3)) (kt : y < x → EV Γ M d tgt L st σ Q) (kf : ¬ y < x → EV Γ M d pc' L st σ Q) : EV Γ M d pc L (.int y :: .int x :: st) σ Q := by
  subst hp
  by_cases h : y < x
  · exact EV.pure0 (fun p e R s m args below meth c H locs cells slots Z ls C l w => lv_icmp_gt C.1 C.2.1 hd ht (fun _ => w) (fun h' => absurd h h')) (kt h)
  · exact EV.pure0 (fun p e R s m args below meth c H locs cells slots Z ls C l w => lv_icmp_gt C.1 C.2.1 hd ht (fun h' => absurd h' h) (fun _ => w)) (kf (h))
theorem EV.if_gt (pc' tgt : Nat) (hp : pc + 3 = pc') {x : Int32} {off : Int} (ht : (pc : Int) + off = (tgt : Int)) (hd : decode (mC M) pc = .ok (.ifCond .gt off, 3)) (kt : 0 < x → EV Γ M d tgt L st σ Q) (kf : ¬ 0 < x → EV Γ M d pc' L st σ Q) : EV Γ M d pc L (.int x :: st) σ Q := by
  subst hp
  by_cases h : 0 < x
  · exact EV.pure0 (fun p e R s m args below meth c H locs cells slots Z ls C l w => lv_if_gt C.1 C.2.1 hd ht (fun _ => w) (fun h' => absurd h h')) (kt h)
  · exact EV.pure0 (fun p e R s m args below meth c H locs cells slots Z ls C l w => lv_if_gt C.1 C.2.1 hd ht (fun h' => absurd h' h) (fun _ => w)) (kf (h))
theorem EV.icmp_le (pc' tgt : Nat) (hp : pc + 3 = pc') {x y : Int32} {off : Int} (ht : (pc : Int) + off = (tgt : Int)) (hd : decode (mC M) pc = .ok (.if_icmp .le off, 3)) (kt : x ≤ y → EV Γ M d tgt L st σ Q) (kf : ¬ x ≤ y → EV Γ M d pc' L st σ Q) : EV Γ M d pc L (.int y :: .int x :: st) σ Q := by
  subst hp
  by_cases h : x ≤ y
  · exact EV.pure0 (fun p e R s m args below meth c H locs cells slots Z ls C l w => lv_icmp_le C.1 C.2.1 hd ht (fun _ => w) (fun h' => absurd h h')) (kt h)
  · exact EV.pure0 (fun p e R s m args below meth c H locs cells slots Z ls C l w => lv_icmp_le C.1 C.2.1 hd ht (fun h' => absurd h' h) (fun _ => w)) (kf (h))
theorem EV.if_le (pc' tgt : Nat) (hp : pc + 3 = pc') {x : Int32} {off : Int} (ht : (pc : Int) + off = (tgt : Int)) (hd : decode (mC M) pc = .ok (.ifCond .le off, 3)) (kt : x ≤ 0 → EV Γ M d tgt L st σ Q) (kf : ¬ x ≤ 0 → EV Γ M d pc' L st σ Q) : EV Γ M d pc L (.int x :: st) σ Q := by
  subst hp
  by_cases h : x ≤ 0
  · exact EV.pure0 (fun p e R s m args below meth c H locs cells slots Z ls C l w => lv_if_le C.1 C.2.1 hd ht (fun _ => w) (fun h' => absurd h h')) (kt h)
  · exact EV.pure0 (fun p e R s m args below meth c H locs cells slots Z ls C l w => lv_if_le C.1 C.2.1 hd ht (fun h' => absurd h' h) (fun _ => w)) (kf (h))
theorem EV.ifnull (pc' tgt : Nat) (hp : pc + 3 = pc') {r : Option Nat} {off : Int} (ht : (pc : Int) + off = (tgt : Int)) (hd : decode (mC M) pc = .ok (.ifnull off, 3)) (kt : r = none → EV Γ M d tgt L st σ Q) (kf : ∀ t, r = some t → EV Γ M d pc' L st σ Q) : EV Γ M d pc L (va_rf r :: st) σ Q := by
  subst hp
  cases r with
  | none => exact EV.pure0 (fun p e R s m args below meth c H locs cells slots Z ls C l w => lv_ifnullN C.1 C.2.1 hd ht w) (kt rfl)
  | some t => exact EV.pure0 (fun p e R s m args below meth c H locs cells slots Z ls C l w => lv_ifnull C.1 C.2.1 hd w) (kf t rfl)
theorem EV.ifnonnull (pc' tgt : Nat) (hp : pc + 3 = pc') {r : Option Nat} {off : Int} (ht : (pc : Int) + off = (tgt : Int)) (hd : decode (mC M) pc = .ok (.ifnonnull off, 3)) (kt : ∀ t, r = some t → EV Γ M d tgt L st σ Q) (kf : r = none → EV Γ M d pc' L st σ Q) : EV Γ M d pc L (va_rf r :: st) σ Q := by
  subst hp
  cases r with
  | none => exact EV.pure0 (fun p e R s m args below meth c H locs cells slots Z ls C l w => lv_ifnonnullN C.1 C.2.1 hd w) (kf rfl)
  | some t => exact EV.pure0 (fun p e R s m args below meth c H locs cells slots Z ls C l w => lv_ifnonnull C.1 C.2.1 hd ht w) (kt t rfl)
theorem EV.tableswitch {dflt lw hg : Int} {offs : Array Int} {len : Nat} {x : Int32} (hd : decode (mC M) pc = .ok (.tableswitch dflt lw hg offs, len))
    (kt : ∀ (j : Nat) (off : Int), x.toInt = lw + j → x.toInt ≤ hg → offs[j]? = some off → ∃ tgt : Nat, (pc : Int) + off = (tgt : Int) ∧ EV Γ M d tgt L st σ Q)
    (kn : ∀ j : Nat, x.toInt = lw + j → x.toInt ≤ hg → offs[j]? ≠ none)
    (kf : x.toInt < lw ∨ hg < x.toInt → ∃ tgt : Nat, (pc : Int) + dflt = (tgt : Int) ∧ EV Γ M d tgt L st σ Q) : EV Γ M d pc L (.int x :: st) σ Q := by
  by_cases h : x.toInt < lw ∨ hg < x.toInt
  · obtain ⟨tgt, ht, k⟩ := kf h
    exact EV.pure0 (fun p e R s m args below meth c H locs cells slots Z ls C l w => lv_tableOut C.1 C.2.1 hd h ht w) k
  · have h1 : ¬ x.toInt < lw := fun q => h (Or.inl q)
    have h2 : ¬ hg < x.toInt := fun q => h (Or.inr q)
    have h3 : x.toInt = lw + ((x.toInt - lw).toNat : Int) := by omega
    cases ho : offs[(x.toInt - lw).toNat]? with
    | none => exact absurd ho (kn _ h3 (by omega))
    | some off =>
      obtain ⟨tgt, ht, k⟩ := kt _ off h3 (by omega) ho
      exact EV.pure0 (fun p e R s m args below meth c H locs cells slots Z ls C l w => lv_tableIn C.1 C.2.1 hd h1 h2 ho ht w) k
theorem EV.lookupswitch {dflt : Int} {ps : Array (Int × Int)} {len : Nat} {x : Int32} (hp : (ps.toList.zip (ps.toList.drop 1)).all (fun (a, next) => a.1 < next.1) = true) (hd : decode (mC M) pc = .ok (.lookupswitch dflt ps, len))
    (k : ∃ tgt : Nat, (pc : Int) + Op.lookupswitch.offset ps.toList dflt x.toInt = (tgt : Int) ∧ EV Γ M d tgt L st σ Q) : EV Γ M d pc L (.int x :: st) σ Q := by
  obtain ⟨tgt, ht, k⟩ := k
  exact EV.pure0 (fun p e R s m args below meth c H locs cells slots Z ls C l w => lv_lookup C.1 C.2.1 hd hp rfl ht w) k
end RULES
