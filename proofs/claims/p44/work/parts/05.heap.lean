/-! MY LAYER: an abstract heap (shapes, and one store for ints, longs, references, doubles, by address and index), and the judgement EV over it. -/
/-- cells made so far, slots made so far, shape (kind, length) by address, and what lies there -/
abbrev AH : Type := Nat × Nat × (Nat → Option (Nat × Nat)) × (Nat → Nat → Int32) × (Nat → Nat → Int64) × (Nat → Nat → Option Nat) × (Nat → Nat → UInt64)
def up {α : Type} (f : Nat → α) (k : Nat) (v : α) : Nat → α := fun j => if j = k then v else f j
theorem up_same {α : Type} (f : Nat → α) (k : Nat) (v : α) : up f k v k = v := by simp [up]
theorem up_ne {α : Type} (f : Nat → α) {k j : Nat} (v : α) (h : j ≠ k) : up f k v j = f j := by simp [up, h]
theorem up_app {α : Type} (f : Nat → α) (k : Nat) (v : α) (j : Nat) : up f k v j = if j = k then v else f j := rfl
def hc (σ : AH) : Nat := σ.1
def hv (σ : AH) : Nat := σ.2.1
def hs (σ : AH) : Nat → Option (Nat × Nat) := σ.2.2.1
def gi (σ : AH) : Nat → Nat → Int32 := σ.2.2.2.1
def gj (σ : AH) : Nat → Nat → Int64 := σ.2.2.2.2.1
def gr (σ : AH) : Nat → Nat → Option Nat := σ.2.2.2.2.2.1
def gd (σ : AH) : Nat → Nat → UInt64 := σ.2.2.2.2.2.2
/-- whole rows replaced -/
def rowI (σ : AH) (a : Nat) (f : Nat → Int32) : AH := (hc σ, hv σ, hs σ, up (gi σ) a f, gj σ, gr σ, gd σ)
def rowJ (σ : AH) (a : Nat) (f : Nat → Int64) : AH := (hc σ, hv σ, hs σ, gi σ, up (gj σ) a f, gr σ, gd σ)
def rowR (σ : AH) (a : Nat) (f : Nat → Option Nat) : AH := (hc σ, hv σ, hs σ, gi σ, gj σ, up (gr σ) a f, gd σ)
def rowD (σ : AH) (a : Nat) (f : Nat → UInt64) : AH := (hc σ, hv σ, hs σ, gi σ, gj σ, gr σ, up (gd σ) a f)
/-- one place written -/
def setI (σ : AH) (a i : Nat) (x : Int32) : AH := rowI σ a (up (gi σ a) i x)
def setJ (σ : AH) (a i : Nat) (x : Int64) : AH := rowJ σ a (up (gj σ a) i x)
def setR (σ : AH) (a i : Nat) (x : Option Nat) : AH := rowR σ a (up (gr σ a) i x)
def setD (σ : AH) (a i : Nat) (x : UInt64) : AH := rowD σ a (up (gd σ a) i x)
/-- a new cell of kind k, length n, at q, with default contents -/
def mk (σ : AH) (q k n : Nat) : AH := (hc σ + 1, hv σ + n, up (hs σ) q (some (k, n)), up (gi σ) q (fun _ => 0), up (gj σ) q (fun _ => 0), up (gr σ) q (fun _ => none), up (gd σ) q (fun _ => 0))
/-- a throwable made: one cell of six slots, that nobody looks at -/
def thr (σ : AH) : AH := (hc σ + 1, hv σ + 6, hs σ, gi σ, gj σ, gr σ, gd σ)
theorem AH_ext {σ τ : AH} (h1 : hc σ = hc τ) (h2 : hv σ = hv τ) (h3 : hs σ = hs τ) (h4 : gi σ = gi τ) (h5 : gj σ = gj τ) (h6 : gr σ = gr τ) (h7 : gd σ = gd τ) : σ = τ := by
  obtain ⟨a1, a2, a3, a4, a5, a6, a7⟩ := σ
  obtain ⟨b1, b2, b3, b4, b5, b6, b7⟩ := τ
  simp only [hc, hv, hs, gi, gj, gr, gd] at h1 h2 h3 h4 h5 h6 h7
  subst h1 h2 h3 h4 h5 h6 h7
  rfl
theorem hc_rowI (σ : AH) (a : Nat) (f : Nat → Int32) : hc (rowI σ a f) = hc σ := rfl
theorem hv_rowI (σ : AH) (a : Nat) (f : Nat → Int32) : hv (rowI σ a f) = hv σ := rfl
theorem hs_rowI (σ : AH) (a : Nat) (f : Nat → Int32) : hs (rowI σ a f) = hs σ := rfl
theorem gi_rowI (σ : AH) (a : Nat) (f : Nat → Int32) : gi (rowI σ a f) = up (gi σ) a f := rfl
theorem gj_rowI (σ : AH) (a : Nat) (f : Nat → Int32) : gj (rowI σ a f) = gj σ := rfl
theorem gr_rowI (σ : AH) (a : Nat) (f : Nat → Int32) : gr (rowI σ a f) = gr σ := rfl
theorem gd_rowI (σ : AH) (a : Nat) (f : Nat → Int32) : gd (rowI σ a f) = gd σ := rfl
theorem hc_rowJ (σ : AH) (a : Nat) (f : Nat → Int64) : hc (rowJ σ a f) = hc σ := rfl
theorem hv_rowJ (σ : AH) (a : Nat) (f : Nat → Int64) : hv (rowJ σ a f) = hv σ := rfl
theorem hs_rowJ (σ : AH) (a : Nat) (f : Nat → Int64) : hs (rowJ σ a f) = hs σ := rfl
theorem gi_rowJ (σ : AH) (a : Nat) (f : Nat → Int64) : gi (rowJ σ a f) = gi σ := rfl
theorem gj_rowJ (σ : AH) (a : Nat) (f : Nat → Int64) : gj (rowJ σ a f) = up (gj σ) a f := rfl
theorem gr_rowJ (σ : AH) (a : Nat) (f : Nat → Int64) : gr (rowJ σ a f) = gr σ := rfl
theorem gd_rowJ (σ : AH) (a : Nat) (f : Nat → Int64) : gd (rowJ σ a f) = gd σ := rfl
theorem hc_rowR (σ : AH) (a : Nat) (f : Nat → Option Nat) : hc (rowR σ a f) = hc σ := rfl
theorem hv_rowR (σ : AH) (a : Nat) (f : Nat → Option Nat) : hv (rowR σ a f) = hv σ := rfl
theorem hs_rowR (σ : AH) (a : Nat) (f : Nat → Option Nat) : hs (rowR σ a f) = hs σ := rfl
theorem gi_rowR (σ : AH) (a : Nat) (f : Nat → Option Nat) : gi (rowR σ a f) = gi σ := rfl
theorem gj_rowR (σ : AH) (a : Nat) (f : Nat → Option Nat) : gj (rowR σ a f) = gj σ := rfl
theorem gr_rowR (σ : AH) (a : Nat) (f : Nat → Option Nat) : gr (rowR σ a f) = up (gr σ) a f := rfl
theorem gd_rowR (σ : AH) (a : Nat) (f : Nat → Option Nat) : gd (rowR σ a f) = gd σ := rfl
theorem hc_rowD (σ : AH) (a : Nat) (f : Nat → UInt64) : hc (rowD σ a f) = hc σ := rfl
theorem hv_rowD (σ : AH) (a : Nat) (f : Nat → UInt64) : hv (rowD σ a f) = hv σ := rfl
theorem hs_rowD (σ : AH) (a : Nat) (f : Nat → UInt64) : hs (rowD σ a f) = hs σ := rfl
theorem gi_rowD (σ : AH) (a : Nat) (f : Nat → UInt64) : gi (rowD σ a f) = gi σ := rfl
theorem gj_rowD (σ : AH) (a : Nat) (f : Nat → UInt64) : gj (rowD σ a f) = gj σ := rfl
theorem gr_rowD (σ : AH) (a : Nat) (f : Nat → UInt64) : gr (rowD σ a f) = gr σ := rfl
theorem gd_rowD (σ : AH) (a : Nat) (f : Nat → UInt64) : gd (rowD σ a f) = up (gd σ) a f := rfl
theorem hc_mk (σ : AH) (q k n : Nat) : hc (mk σ q k n) = hc σ + 1 := rfl
theorem hv_mk (σ : AH) (q k n : Nat) : hv (mk σ q k n) = hv σ + n := rfl
theorem hs_mk (σ : AH) (q k n : Nat) : hs (mk σ q k n) = up (hs σ) q (some (k, n)) := rfl
theorem gi_mk (σ : AH) (q k n : Nat) : gi (mk σ q k n) = up (gi σ) q (fun _ => 0) := rfl
theorem gj_mk (σ : AH) (q k n : Nat) : gj (mk σ q k n) = up (gj σ) q (fun _ => 0) := rfl
theorem gr_mk (σ : AH) (q k n : Nat) : gr (mk σ q k n) = up (gr σ) q (fun _ => none) := rfl
theorem gd_mk (σ : AH) (q k n : Nat) : gd (mk σ q k n) = up (gd σ) q (fun _ => 0) := rfl
theorem hc_thr (σ : AH) : hc (thr σ) = hc σ + 1 := rfl
theorem hv_thr (σ : AH) : hv (thr σ) = hv σ + 6 := rfl
theorem hs_thr (σ : AH) : hs (thr σ) = hs σ := rfl
theorem gi_thr (σ : AH) : gi (thr σ) = gi σ := rfl
theorem gj_thr (σ : AH) : gj (thr σ) = gj σ := rfl
theorem gr_thr (σ : AH) : gr (thr σ) = gr σ := rfl
theorem gd_thr (σ : AH) : gd (thr σ) = gd σ := rfl
/-! KINDS: 0 Algebra, 1 Calculator, 2 Costs, 3 Diagrams, 4 Family, 5 Reader, 6 FamilyStore, 7 FamilyStoreModel; arrays: 20 byte, 21 boolean, 22 int, 23 long, 24 double, 25 Family[], 26 long[][]; 27 the read-only longs WITH, 28 the script. -/
/-- field types: 0 int, 1 long, 2 reference, 3 double -/
def tkO (k : Nat) : List Nat := match k with
  | 0 => [2, 2, 2, 2]
  | 1 => [2, 0]
  | 2 => [2, 2, 2]
  | 3 => [2, 2, 2, 2, 2, 0, 0, 0]
  | 4 => [2, 0, 0]
  | 5 => [2, 2, 0, 2, 0, 2, 0, 0, 0, 0]
  | 6 => [2, 0, 0, 2, 0, 2, 0, 0, 2, 2, 2, 2, 2, 2, 2, 2, 0]
  | 7 => [0, 2, 0, 2, 0, 0, 0, 0, 2, 2, 2, 2, 0, 2, 2, 2, 2, 2, 2, 2, 0, 2, 2, 0, 0, 0, 0]
  | _ => []
def tk (k i : Nat) : Nat := match k with
  | 20 => 0 | 21 => 0 | 22 => 0 | 23 => 1 | 24 => 3 | 25 => 2 | 26 => 2 | 27 => 1 | 28 => 0
  | k => (tkO k).getD i 0
def val (σ : AH) (k a i : Nat) : Value := match tk k i with
  | 0 => .int (gi σ a i)
  | 1 => .long (gj σ a i)
  | 2 => va_rf (gr σ a i)
  | _ => .double (gd σ a i)
theorem val_congr {σ τ : AH} {k a : Nat} (h : gi τ a = gi σ a ∧ gj τ a = gj σ a ∧ gr τ a = gr σ a ∧ gd τ a = gd σ a) : val τ k a = val σ k a := by
  funext i
  simp only [val, h.1, h.2.1, h.2.2.1, h.2.2.2]
