/-! ROWS of Rows: sizeBelow, span, list. -/
theorem rct_succ (r : Nat → Int64) (x : Nat) : rct r (x + 1) = rct r x + (if bs r x then 1 else 0) := rfl
theorem rct_gap (r : Nat → Int64) (a : Nat) : ∀ b, a ≤ b → (∀ x, a ≤ x → x < b → bs r x = false) → rct r b = rct r a := by
  intro b
  induction b with
  | zero => intro h _; rw [show a = 0 by omega]
  | succ b ih =>
    intro h hx
    rcases Nat.lt_or_ge b a with c | c
    · rw [show a = b + 1 by omega]
    · rw [rct_succ, hx b c (by omega), ih c (fun x h1 h2 => hx x h1 (by omega))]; rfl
theorem rct_mono (r : Nat → Int64) {a b : Nat} (h : a ≤ b) : rct r a ≤ rct r b := fb_ct_mono _ h
theorem tb_lz {x n : Nat} (h : lz64 x n) : x.testBit (63 - n) = true ∧ ∀ i, 63 - n < i → x.testBit i = false := by
  obtain ⟨h1, h2, h3⟩ := h
  have e : 64 - n = (63 - n) + 1 := by omega
  refine ⟨?_, fun i hi => ?_⟩
  · rw [Nat.testBit_eq_decide_div_mod_eq]
    have : x / 2 ^ (63 - n) = 1 := by
      apply Nat.div_eq_of_lt_le
      · omega
      · rw [e, Nat.pow_succ] at h3; omega
    rw [this]; rfl
  · exact Nat.testBit_lt_two_pow (Nat.lt_of_lt_of_le h3 (Nat.pow_le_pow_right (by decide) (by omega)))
theorem span_R {Γ : Gm} {d : Nat} {σ : AH} {a n : Nat} (ha : hs σ a = some (23, n)) (hn : 64 ≤ n) (hd : 2 ≤ d) : RI Γ d MX7_span [.ref a] σ (fun r σ' => σ' = σ ∧ ∃ k, k ≤ 12 ∧ r = nI (2 ^ k) ∧ ∀ x, x < 4096 → bs (gj σ a) x = true → x < 2 ^ k) := by
  have E : ∀ g, g < 4096 → (∀ x, x < 4096 → bs (gj σ a) x = true → x ≤ g) → ∀ k, k ≤ 12 → EV Γ MX7_span d 46 [none, some (.int (nI g)), some (.int (nI (2 ^ k)))] [] σ (fun o σ' => ∃ r : Int32, o = .inl (some (.int r)) ∧ σ' = σ ∧ ∃ k, k ≤ 12 ∧ r = nI (2 ^ k) ∧ ∀ x, x < 4096 → bs (gj σ a) x = true → x < 2 ^ k) := by
    intro g hg hx
    refine upto 12 ?_ (fun k hk ih => ?_)
    · refine gX7_span_46 ⟨fun c => ⟨_, rfl, rfl, 12, by omega, rfl, fun x h _ => h⟩, fun c => absurd ((nI_ltI (by omega) (by decide)).mpr (by omega)) c⟩
    · have hp : 2 ^ k < 2 ^ 12 := Nat.pow_lt_pow_right (by decide) hk
      refine gX7_span_46 ⟨fun c => ⟨_, rfl, rfl, k, by omega, rfl, fun x h h2 => ?_⟩, fun c => ⟨fun c2 => absurd ((c4096le (by omega)).mp c2) (by omega), fun c2 => ?_⟩⟩
      · have := (nI_ltI (by omega) (by omega)).mp c
        have := hx x h h2
        omega
      · have e : nI (2 ^ k) * 2 = nI (2 ^ (k + 1)) := by rw [Nat.pow_succ]; exact pk_mul _ 2
        rw [e]; exact ih
  have L : ∀ k, (k ≤ 64 → (∀ x, x < 4096 → 64 * k ≤ x → 0 < x → bs (gj σ a) x = false) → EV Γ MX7_span d 5 [some (.ref a), some (.int 0), some (.int (nI k - 1))] [] σ (fun o σ' => ∃ r : Int32, o = .inl (some (.int r)) ∧ σ' = σ ∧ ∃ k, k ≤ 12 ∧ r = nI (2 ^ k) ∧ ∀ x, x < 4096 → bs (gj σ a) x = true → x < 2 ^ k)) ∧ (k ≤ 64 → ∀ g, g < 4096 → 0 < g → (∀ x, x < 4096 → bs (gj σ a) x = true → x ≤ g) → EV Γ MX7_span d 5 [some (.ref a), some (.int (nI g)), some (.int (nI k - 1))] [] σ (fun o σ' => ∃ r : Int32, o = .inl (some (.int r)) ∧ σ' = σ ∧ ∃ k, k ≤ 12 ∧ r = nI (2 ^ k) ∧ ∀ x, x < 4096 → bs (gj σ a) x = true → x < 2 ^ k)) := by
    have fin : ∀ k, k ≤ 64 → ∀ g, g < 4096 → 0 < g → (∀ x, x < 4096 → bs (gj σ a) x = true → x ≤ g) → EV Γ MX7_span d 5 [some (.ref a), some (.int (nI g)), some (.int (nI k - 1))] [] σ (fun o σ' => ∃ r : Int32, o = .inl (some (.int r)) ∧ σ' = σ ∧ ∃ k, k ≤ 12 ∧ r = nI (2 ^ k) ∧ ∀ x, x < 4096 → bs (gj σ a) x = true → x < 2 ^ k) := by
      intro k hk g hg h0 hx
      exact gX7_span_5 ⟨fun _ => E g hg hx 0 (by omega), fun _ => ⟨fun _ => E g hg hx 0 (by omega), fun c => absurd c (nI_ne0 h0 (by omega))⟩⟩
    intro k
    induction k with
    | zero =>
      refine ⟨fun _ hz => ?_, fin 0⟩
      exact gX7_span_5 ⟨fun _ => E 0 (by omega) (fun x hx hb => by
        rcases Nat.eq_zero_or_pos x with z | z
        · omega
        · rw [hz x hx (by omega) z] at hb; exact absurd hb (by decide)) 0 (by omega), fun c => absurd (by decide) c⟩
    | succ k ih =>
      refine ⟨fun hk hz => ?_, fin (k + 1)⟩
      rw [nI_pred]
      refine gX7_span_5 ⟨fun c => absurd c (nn0 (by omega)), fun _ => ⟨fun c => absurd rfl c, fun _ => ⟨n, ha, k, IXn (by omega) (by omega), ?_⟩⟩⟩
      rw [cmp0]
      have e1 : nI k + (-1) = nI k - 1 := (Int32.sub_eq_add_neg _ _).symm
      rw [e1]
      refine ⟨fun c => ?_, fun c => ?_⟩
      · refine ih.1 (by omega) (fun x hx hx2 hx0 => ?_)
        rcases Nat.lt_or_ge x (64 * (k + 1)) with g | g
        · have e : x = 64 * k + (x - 64 * k) := by omega
          rw [e, bs_word _ _ _ (by omega), c, w_zero]
        · exact hz x hx g hx0
      · obtain ⟨x, hx, e⟩ := wb_of (gj σ a k)
        rw [e] at c
        have x0 : 0 < x := by
          rcases Nat.eq_zero_or_pos x with z | z
          · exact absurd (by rw [z]; rfl) c
          · exact z
        rw [e]
        refine CI.of (d2 := 1) (nlz64_R x x0 hx (by omega)) (by omega) (fun r σ1 hw hp => ?_)
        obtain ⟨rfl, lz, rfl, hlz⟩ := hp
        have hl := tb_lz hlz
        have hl1 := hlz.1
        have e2 : ((((nI k) * 64) + 64) - 1) - nI lz = nI (64 * k + (63 - lz)) := by
          rw [show (64 : Int32) = nI 64 from rfl, pk_mul, nI_add, show (1 : Int32) = nI 1 from rfl, pk_sub (by omega), pk_sub (by omega)]
          congr 1; omega
        rw [e2]
        have mx : ∀ y, y < 4096 → bs (gj σ1 a) y = true → y ≤ 64 * k + (63 - lz) := by
          intro y hy hb
          rcases Nat.lt_or_ge y (64 * (k + 1)) with g | g
          · rcases Nat.lt_or_ge (64 * k + (63 - lz)) y with g2 | g2
            · have e3 : y = 64 * k + (y - 64 * k) := by omega
              rw [e3, bs_word _ _ _ (by omega), e, w_lN _ (by omega), hl.2 _ (by omega)] at hb
              exact absurd hb (by decide)
            · exact g2
          · rw [hz y hy g (by omega)] at hb; exact absurd hb (by decide)
        rcases Nat.eq_zero_or_pos (64 * k + (63 - lz)) with z | z
        · rw [z]
          refine ih.1 (by omega) (fun y hy hy2 hy0 => ?_)
          cases hb : bs (gj σ1 a) y
          · rfl
          · have := mx y hy hb
            omega
        · exact ih.2 (by omega) _ (by omega) z mx
  refine eX7_span ?_
  exact (L 64).1 (by omega) (fun x hx h _ => absurd hx (by omega))
/-- the row's masks, in ascending order -/
def listed (r : Nat → Int64) (f : Nat → Int32) (n : Nat) : Prop := ∀ x, x < n → bs r x = true → f (rct r x) = nI x
theorem clr_low {n t : Nat} (hn : n < 2 ^ 64) (h : lowbit n t) (ht : t < 64) {i : Nat} (hi : i < 64) : wb (lN n &&& (lN n - 1)) i = (wb (lN n) i && !decide (i = t)) := by
  obtain ⟨q, rfl⟩ := low_form h
  have hp := Nat.two_pow_pos t
  have hp2 : 2 ^ t < 2 ^ (t + 1) := by rw [Nat.pow_succ]; omega
  have e1 : lN (2 ^ (t + 1) * q + 2 ^ t) - 1 = lN (2 ^ (t + 1) * q + (2 ^ t - 1)) := (lN_sub (b := 1) (by omega)).trans (by congr 1; omega)
  rw [e1, w_and, w_lN _ hi, w_lN _ hi, Nat.testBit_two_pow_mul_add _ hp2, Nat.testBit_two_pow_mul_add _ (by omega), Nat.testBit_two_pow_sub_one, Nat.testBit_two_pow]
  rcases Nat.lt_trichotomy i t with z | z | z
  · rw [if_pos (by omega), if_pos (by omega)]; simp [z, show ¬ t = i by omega]
  · subst z; rw [if_pos (by omega), if_pos (by omega)]; simp
  · rw [if_neg (by omega), if_neg (by omega)]; simp [show ¬ i = t by omega]
theorem has_low {n : Nat} (h : 0 < n) (hn : n < 2 ^ 64) : ∃ t, t < 64 ∧ lowbit n t := by
  have : ∃ i, i < 64 ∧ n.testBit i = true := by
    by_cases c : ∃ i, i < 64 ∧ n.testBit i = true
    · exact c
    · exfalso
      have : n = 0 := by
        apply Nat.eq_of_testBit_eq
        intro i
        rw [Nat.zero_testBit]
        rcases Nat.lt_or_ge i 64 with g | g
        · cases e : n.testBit i
          · rfl
          · exact absurd ⟨i, g, e⟩ c
        · exact Nat.testBit_lt_two_pow (Nat.lt_of_lt_of_le hn (Nat.pow_le_pow_right (by decide) g))
      omega
  obtain ⟨t, h1, h2, h3⟩ := fb_first (p := fun i => n.testBit i = true) this
  exact ⟨t, h1, h2, fun i hi => ts_nt (h3 i hi)⟩
theorem list_R {Γ : Gm} {d : Nat} {σ : AH} {a b n m : Nat} (ha : hs σ a = some (23, n)) (hb : hs σ b = some (22, m)) (hn : 64 ≤ n) (hm : 4096 ≤ m) (hm2 : m < 2 ^ 31) (hd : 2 ≤ d) : RI Γ d MX7_list [.ref a, .ref b] σ (fun r σ' => r = nI (rct (gj σ a) 4096) ∧ ∃ f, σ' = rowI σ b f ∧ listed (gj σ a) f 4096) := by
  generalize hr : gj σ a = r
  refine eX7_list ?_
  have L : ∀ w, w ≤ 64 → ∀ f, listed r f (64 * w) → EV Γ MX7_list d 4 [some (.ref a), some (.ref b), some (.int (nI (rct r (64 * w)))), some (.int (nI w)), none, none, none] [] (rowI σ b f) (fun o σ' => ∃ i : Int32, o = .inl (some (.int i)) ∧ i = nI (rct r 4096) ∧ ∃ f, σ' = rowI σ b f ∧ listed r f 4096) := by
    refine upto 64 ?_ (fun w hw ih => ?_)
    · intro f hf
      exact gX7_list_4 ⟨fun _ => ⟨_, rfl, rfl, f, rfl, hf⟩, fun c => absurd ((c64le (by omega)).mpr (by omega)) c⟩
    · intro f hf
      refine gX7_list_4 ⟨fun c => absurd ((c64le (by omega)).mp c) (by omega), fun c => ⟨n, ha, w, IXn (by omega) (by omega), ?_⟩⟩
      rw [show gj (rowI σ b f) a w = r w from congrFun hr w]
      have J : ∀ p, p ≤ 64 → ∀ f x c, listed r f (64 * w + p) → (∀ i, i < 64 → wb x i = (decide (p ≤ i) && wb (r w) i)) → c ≤ p → EV Γ MX7_list d 18 [some (.ref a), some (.ref b), some (.int (nI (rct r (64 * w + p)))), some (.int (nI w)), some (.long x), none, some (.int (nI c))] [] (rowI σ b f) (fun o σ' => ∃ i : Int32, o = .inl (some (.int i)) ∧ i = nI (rct r 4096) ∧ ∃ f, σ' = rowI σ b f ∧ listed r f 4096) := by
        have rck : ∀ k p, p + k = 64 → ∀ f x c, listed r f (64 * w + p) → (∀ i, i < 64 → wb x i = (decide (p ≤ i) && wb (r w) i)) → c ≤ p → EV Γ MX7_list d 18 [some (.ref a), some (.ref b), some (.int (nI (rct r (64 * w + p)))), some (.int (nI w)), some (.long x), none, some (.int (nI c))] [] (rowI σ b f) (fun o σ' => ∃ i : Int32, o = .inl (some (.int i)) ∧ i = nI (rct r 4096) ∧ ∃ f, σ' = rowI σ b f ∧ listed r f 4096) := by
          intro k
          induction k using Nat.strongRecOn with
          | _ k IH =>
          intro p hpk f x c hf hx hc
          have out : (∀ i, i < 64 → wb x i = false) → EV Γ MX7_list d 4 [some (.ref a), some (.ref b), some (.int (nI (rct r (64 * w + p)))), some (.int (nI w + 1)), none, none, none] [] (rowI σ b f) (fun o σ' => ∃ i : Int32, o = .inl (some (.int i)) ∧ i = nI (rct r 4096) ∧ ∃ f, σ' = rowI σ b f ∧ listed r f 4096) := by
            intro hz
            have gap : ∀ y, 64 * w + p ≤ y → y < 64 * (w + 1) → bs r y = false := by
              intro y h1 h2
              have e : y = 64 * w + (y - 64 * w) := by omega
              have z := hx (y - 64 * w) (by omega)
              rw [hz _ (by omega), decide_eq_true (by omega), Bool.true_and] at z
              rw [e, bs_word _ _ _ (by omega)]
              exact z.symm
            rw [nI_1, ← rct_gap r (64 * w + p) (64 * (w + 1)) (by omega) gap]
            refine ih f (fun y hy hb2 => ?_)
            rcases Nat.lt_or_ge y (64 * w + p) with g | g
            · exact hf y g hb2
            · rw [gap y g hy] at hb2; exact absurd hb2 (by decide)
          refine gX7_list_18 ⟨fun c1 => ?_, fun c1 => ?_⟩
          · have := (c64le (by omega)).mp c1
            exact out (fun i hi => by rw [hx i hi, decide_eq_false (by omega)]; rfl)
          · have hc64 : c < 64 := by
              rcases Nat.lt_or_ge c 64 with g | g
              · exact g
              · exact absurd ((c64le (by omega)).mpr g) c1
            rw [cmp0]
            refine ⟨fun z => out ((w_zero_iff x).mp z), fun z => ⟨m, hb, ?_⟩⟩
            obtain ⟨N, hN, rfl⟩ := wb_of x
            have N0 : 0 < N := by
              rcases Nat.eq_zero_or_pos N with q | q
              · exact absurd (by rw [q]; rfl) z
              · exact q
            obtain ⟨t, ht, hl⟩ := has_low N0 hN
            have hxt := hx t ht
            rw [w_lN _ ht, hl.1] at hxt
            have pt : p ≤ t := by
              rcases Nat.lt_or_ge t p with g | g
              · rw [decide_eq_false (by omega), Bool.false_and] at hxt; exact absurd hxt (by decide)
              · exact g
            have rt : bs r (64 * w + t) = true := by
              rw [bs_word _ _ _ ht]
              rw [decide_eq_true pt, Bool.true_and] at hxt
              exact hxt.symm
            have gap : ∀ y, 64 * w + p ≤ y → y < 64 * w + t → bs r y = false := by
              intro y h1 h2
              have e : y = 64 * w + (y - 64 * w) := by omega
              have z := hx (y - 64 * w) (by omega)
              rw [w_lN _ (by omega), hl.2 _ (by omega), decide_eq_true (by omega), Bool.true_and] at z
              rw [e, bs_word _ _ _ (by omega)]
              exact z.symm
            have eg := rct_gap r (64 * w + p) (64 * w + t) (by omega) gap
            have es : rct r (64 * w + (t + 1)) = rct r (64 * w + p) + 1 := by
              rw [← Nat.add_assoc, rct_succ, eg, rt]; rfl
            have le := rct_le r (64 * w + p)
            refine ⟨fun q => absurd ((nI_leI (by omega) (by omega)).mp q) (by omega), fun _ => ?_⟩
            refine CI.of (d2 := 1) (ntz64_R N t hN hl (by omega)) (by omega) (fun i σ1 hw2 hp => ?_)
            obtain ⟨rfl, rfl⟩ := hp
            refine ⟨m, hb, rct r (64 * w + p), IXn (by omega) (by omega), fun σ12 h12 => ?_⟩
            have e3 : nI w * 64 + nI t = nI (64 * w + t) := by
              rw [show (64 : Int32) = nI 64 from rfl, pk_mul, nI_add]
              congr 1; omega
            rw [h12, setI_rowI, e3, nI_1, ← es]
            refine gX7_list_54 ?_
            rw [nI_1]
            refine IH (64 - (t + 1)) (by omega) (t + 1) (by omega) _ _ (c + 1) (fun y hy hb2 => ?_) (fun i hi => ?_) (by omega)
            · rcases Nat.lt_or_ge y (64 * w + p) with g | g
              · have : rct r y ≠ rct r (64 * w + p) := by
                  have h1 := rct_succ r y
                  rw [hb2, if_pos rfl] at h1
                  have h2 := rct_mono r (show y + 1 ≤ 64 * w + p by omega)
                  omega
                rw [up_ne _ _ this]
                exact hf y g hb2
              · have yt : y = 64 * w + t := by
                  rcases Nat.lt_or_ge y (64 * w + t) with g2 | g2
                  · rw [gap y g g2] at hb2; exact absurd hb2 (by decide)
                  · omega
                rw [yt, eg, up_same]
            · rw [clr_low hN hl ht hi, hx i hi]
              rcases Nat.lt_trichotomy i t with g | g | g
              · have : (decide (p ≤ i) && wb (r w) i) = false := by rw [← hx i hi, w_lN _ hi, hl.2 i g]
                rw [this, decide_eq_false (show ¬ t + 1 ≤ i by omega)]; rfl
              · rw [decide_eq_true g, decide_eq_false (show ¬ t + 1 ≤ i by omega)]; simp
              · rw [decide_eq_false (show ¬ i = t by omega), decide_eq_true (show p ≤ i by omega), decide_eq_true (show t + 1 ≤ i by omega)]; simp
        exact fun p hp => rck (64 - p) p (by omega)
      exact J 0 (by omega) f (r w) 0 hf (fun i hi => by simp) (by omega)
  have := L 0 (by omega) (gi σ b) (fun x hx => absurd hx (by omega))
  rw [rowI_self] at this
  exact this

