/-! a story: as the reference holds it (g: 218 cells), and as the class does (f: 170 cells) -/
def tl (g : Nat → Int32) (e : Nat) : Bool := !(g (2 + e) == -1)
def mn (g : Nat → Int32) (e : Nat) : Nat := ix (g (2 + e))
def vl (g : Nat → Int32) (e i w : Nat) : Int := (g (8 + 5 * (6 * e + i) + w)).toInt
def inn (g : Nat → Int32) (e i : Nat) : Bool := decide (i < mn g e) && (g (8 + 5 * (6 * e + i) + 4) == 1)
def no (g : Nat → Int32) : Nat := ix (g 1)
def kd (g : Nat → Int32) (o : Nat) : Nat := ix (g (188 + 3 * o))
def ox (g : Nat → Int32) (o : Nat) : Nat := ix (g (188 + 3 * o + 1))
def oy (g : Nat → Int32) (o : Nat) : Nat := ix (g (188 + 3 * o + 2))
def cd (g : Nat → Int32) (o : Nat) : Nat := 100 * kd g o + 10 * ox g o + oy g o
def okR (g : Nat → Int32) (e i : Nat) : Prop := 0 ≤ vl g e i 0 ∧ vl g e i 0 ≤ vl g e i 1 ∧ vl g e i 1 ≤ 9999 ∧ 0 ≤ vl g e i 2 ∧ vl g e i 2 ≤ 3 ∧ 1 ≤ vl g e i 3 ∧ vl g e i 3 ≤ 3 ∧ (g (8 + 5 * (6 * e + i) + 4) = 0 ∨ g (8 + 5 * (6 * e + i) + 4) = 1)
def okO (g : Nat → Int32) (o : Nat) : Prop := g (188 + 3 * o) = nI (kd g o) ∧ g (188 + 3 * o + 1) = nI (ox g o) ∧ g (188 + 3 * o + 2) = nI (oy g o) ∧ kd g o < 5 ∧ ox g o < 6 ∧ oy g o < 6 ∧ ox g o ≠ oy g o
def okS (N : Nat) (g : Nat → Int32) : Prop := (0 ≤ (g 0).toInt ∧ (g 0).toInt ≤ 9999) ∧ (g 1 = nI (no g) ∧ no g ≤ N) ∧ (∀ o, o < no g → okO g o) ∧ (∀ e, e < 6 → (tl g e = true → g (2 + e) = nI (mn g e) ∧ 1 ≤ mn g e) ∧ mn g e ≤ 6) ∧ (∀ e, e < 6 → ∀ i, i < mn g e → okR g e i)
def repC (f g : Nat → Int32) : Prop := f 0 = g 0 ∧ f 2 = g 1 ∧ f 1 = nI (bts 6 (tl g)) ∧ (∀ o, o < no g → f (3 + o) = nI (cd g o)) ∧ (∀ e, e < 6 → f (14 + e) = nI (mn g e) ∧ f (20 + e) = nI (bts 6 (inn g e))) ∧ (∀ e, e < 6 → ∀ i, i < mn g e → ∀ w, w < 4 → f (26 + 24 * e + 4 * i + w) = g (8 + 5 * (6 * e + i) + w))
theorem mn_nt {g : Nat → Int32} {e : Nat} (h : tl g e = false) : mn g e = 0 := by
  unfold tl at h
  have : g (2 + e) = -1 := by simpa using h
  unfold mn
  rw [this]
  decide
theorem inn_lt {g : Nat → Int32} {e i : Nat} (h : inn g e i = true) : i < mn g e := by
  unfold inn at h
  simp at h
  exact h.1
theorem inn_tl {g : Nat → Int32} {e i : Nat} (h : inn g e i = true) : tl g e = true := by
  cases ht : tl g e with
  | true => rfl
  | false =>
    have := inn_lt h
    rw [mn_nt ht] at this
    omega
/-- an int that is an event, or not -/
theorem ev_or (x : Int32) (n : Nat) (hn : n < 2 ^ 31) : (∃ e : Nat, e < n ∧ x = nI e) ∨ (x < 0 ∨ nI n ≤ x) := by
  obtain ⟨z, h1, h2, rfl⟩ := i_ex x
  by_cases h : 0 ≤ z ∧ z < n
  · refine Or.inl ⟨z.toNat, by omega, ?_⟩
    rw [nI_i]
    congr 1
    omega
  · refine Or.inr ?_
    rw [nI_i, show (0 : Int32) = iI 0 from rfl, iI_lt h1 h2 (by decide) (by decide), iI_le (by omega) (by omega) h1 h2]
    omega
theorem nI_lit (n : Nat) : (OfNat.ofNat n : Int32) = nI (OfNat.ofNat n) := rfl
theorem ge6 {e : Nat} (h : e < 6) : (6 ≤ nI e) = False := by
  rw [show (6 : Int32) = nI 6 from rfl, nI_leI (by decide) (by omega)]
  simp; omega
theorem lt6 {e : Nat} (h : e < 6) : (nI e < 6) = True := by
  rw [show (6 : Int32) = nI 6 from rfl, nI_ltI (by omega) (by decide)]
  simp; omega
theorem ltz {e : Nat} (h : e < 2 ^ 31) : (nI e < 0) = False := by simp [nI_pos h]
section STORY
variable {a N : Nat} {s : gS} {g : Nat → Int32} {Q : Int32 → gS → Prop}
theorem c_isTold {e : Nat} (R : repC (s.1 (a + 1)) g) (h : e < 6) : wpX8_isTold a (nI e) s Q = Q (bi (tl g e)) s := by
  unfold wpX8_isTold
  have e1 : gi s (a + 1) 1 = nI (bts 6 (tl g)) := R.2.2.1
  rw [e1, sh6b h]
  simp only [ltz (show e < 2 ^ 31 by omega), ge6 h, bi_1, false_implies, true_and, not_false_eq_true, true_implies]
  cases tl g e <;> simp [bi]
theorem c_isTold0 {x : Int32} (h : x < 0 ∨ 6 ≤ x) : wpX8_isTold a x s Q = Q 0 s := by
  unfold wpX8_isTold
  by_cases h1 : x < 0
  · simp [h1]
  · have h2 : 6 ≤ x := h.resolve_left h1
    simp [h1, h2]
theorem c_size {e : Nat} (R : repC (s.1 (a + 1)) g) (h : e < 6) : wpX8_size a (nI e) s Q = Q (nI (mn g e)) s := by
  unfold wpX8_size
  have e1 : 14 + nI e = nI (14 + e) := nI_add 14 e
  have e2 : gi s (a + 1) (14 + e) = nI (mn g e) := (R.2.2.2.2.1 e h).1
  simp only [ltz (show e < 2 ^ 31 by omega), ge6 h, e1, nI_clamp (show 14 + e < 2 ^ 31 by omega), e2, false_implies, true_and, not_false_eq_true, true_implies, vp_in_nI (show 14 + e < 170 by omega) (by decide)]
theorem c_size0 {x : Int32} (h : x < 0 ∨ 6 ≤ x) : wpX8_size a x s Q = Q 0 s := by
  unfold wpX8_size
  by_cases h1 : x < 0
  · simp [h1]
  · have h2 : 6 ≤ x := h.resolve_left h1
    simp [h1, h2]
theorem c_inBits {e : Nat} (R : repC (s.1 (a + 1)) g) (h : e < 6) : wpX8_inBits a (nI e) s Q = Q (nI (bts 6 (inn g e))) s := by
  unfold wpX8_inBits
  have e1 : 20 + nI e = nI (20 + e) := nI_add 20 e
  have e2 : gi s (a + 1) (20 + e) = nI (bts 6 (inn g e)) := (R.2.2.2.2.1 e h).2
  simp only [ltz (show e < 2 ^ 31 by omega), ge6 h, e1, nI_clamp (show 20 + e < 2 ^ 31 by omega), e2, false_implies, true_and, not_false_eq_true, true_implies, vp_in_nI (show 20 + e < 170 by omega) (by decide)]
/-- has, for any int -/
def hs (g : Nat → Int32) (e : Nat) (x : Int32) : Bool := decide (0 ≤ x) && decide (x < nI (mn g e))
theorem hs_nI {e i : Nat} (O : okS N g) (he : e < 6) (hi : i < 2 ^ 31) : hs g e (nI i) = decide (i < mn g e) := by
  have := (O.2.2.2.1 e he).2
  unfold hs
  simp [nI_pos' hi, nI_ltI hi (show mn g e < 2 ^ 31 by omega)]
theorem c_has {e : Nat} {x : Int32} (R : repC (s.1 (a + 1)) g) (h : e < 6) : wpX8_has a (nI e) x s Q = Q (bi (hs g e x)) s := by
  unfold wpX8_has
  rw [c_size R h]
  unfold hs
  by_cases h1 : x < 0
  · have : ¬ 0 ≤ x := by simpa using h1
    simp [h1, this, bi]
  · have h1' : 0 ≤ x := by simpa using h1
    by_cases h2 : nI (mn g e) ≤ x
    · have : ¬ x < nI (mn g e) := by simpa using h2
      simp [h1, h2, this, bi]
    · have : x < nI (mn g e) := by simpa using h2
      simp [h1, h1', h2, this, bi]
theorem hs_ex {e : Nat} {x : Int32} (O : okS N g) (he : e < 6) (h : hs g e x = true) : ∃ i, i < mn g e ∧ i < 6 ∧ x = nI i := by
  have h6 := (O.2.2.2.1 e he).2
  unfold hs at h
  simp at h
  rcases ev_or x (mn g e) (by omega) with ⟨i, h1, h2⟩ | h1 | h1
  · exact ⟨i, h1, by omega, h2⟩
  · exact absurd h1 (by simpa using h.1)
  · exact absurd h.2 (by simpa using h1)
theorem c_isIn {e i : Nat} (O : okS N g) (R : repC (s.1 (a + 1)) g) (h : e < 6) (hi : i < 6) : wpX8_isIn a (nI e) (nI i) s Q = Q (bi (inn g e i)) s := by
  unfold wpX8_isIn
  rw [c_has R h, c_inBits R h, sh6b hi, hs_nI O h (by omega)]
  by_cases h1 : i < mn g e
  · simp only [h1, decide_true, bi_0, bi_1]
    cases inn g e i <;> simp [bi]
  · have : inn g e i = false := by unfold inn; simp [h1]
    rw [this]
    simp [h1, bi]
theorem c_isIn0 {x : Int32} {y : Int32} (h : x < 0 ∨ 6 ≤ x) : wpX8_isIn a x y s Q = Q 0 s := by
  unfold wpX8_isIn wpX8_has
  rw [c_size0 h]
  by_cases h1 : y < 0
  · simp [h1]
  · have : 0 ≤ y := by simpa using h1
    simp [h1, this]
theorem c_value {e i w : Nat} (R : repC (s.1 (a + 1)) g) (h : e < 6) (hi : i < mn g e) (hi6 : i < 6) (hw : w < 4) : wpX8_value a (nI e) (nI i) (nI w) s Q = Q (iI (vl g e i w)) s := by
  unfold wpX8_value
  have e1 : 26 + nI e * 24 + nI i * 4 + nI w = nI (26 + 24 * e + 4 * i + w) := by
    simp only [lit_i, nI_i, iI_add, iI_mul]
    congr 1
    simp
    omega
  have e2 : gi s (a + 1) (26 + 24 * e + 4 * i + w) = iI (vl g e i w) := by
    show s.1 (a + 1) (26 + 24 * e + 4 * i + w) = iI (vl g e i w)
    rw [R.2.2.2.2.2 e h i hi w hw]
    exact i_of _
  have e3 : nI w ≤ 3 := by
    rw [show (3 : Int32) = nI 3 from rfl, nI_leI (by omega) (by decide)]
    omega
  simp only [ltz (show e < 2 ^ 31 by omega), ltz (show i < 2 ^ 31 by omega), ltz (show w < 2 ^ 31 by omega), ge6 h, ge6 hi6, e1, e3, nI_clamp (show 26 + 24 * e + 4 * i + w < 2 ^ 31 by omega), e2, false_implies, true_and, and_true, not_false_eq_true, not_true_eq_false, true_implies, vp_in_nI (show 26 + 24 * e + 4 * i + w < 170 by omega) (by decide)]
/-- a value of any reading, told or not: it answers -/
theorem c_valueA {e i w : Nat} (h : e < 6) (hi6 : i < 6) (hw : w < 4) : wpX8_value a (nI e) (nI i) (nI w) s Q = Q (s.1 (a + 1) (26 + 24 * e + 4 * i + w)) s := by
  unfold wpX8_value
  have e1 : 26 + nI e * 24 + nI i * 4 + nI w = nI (26 + 24 * e + 4 * i + w) := by
    simp only [lit_i, nI_i, iI_add, iI_mul]
    congr 1
    simp
    omega
  have e3 : nI w ≤ 3 := by
    rw [show (3 : Int32) = nI 3 from rfl, nI_leI (by omega) (by decide)]
    omega
  simp only [ltz (show e < 2 ^ 31 by omega), ltz (show i < 2 ^ 31 by omega), ltz (show w < 2 ^ 31 by omega), ge6 h, ge6 hi6, e1, e3, nI_clamp (show 26 + 24 * e + 4 * i + w < 2 ^ 31 by omega), false_implies, true_and, and_true, not_false_eq_true, not_true_eq_false, true_implies, vp_in_nI (show 26 + 24 * e + 4 * i + w < 170 by omega) (by decide)]
  rfl
theorem c_orders (O : okS N g) (R : repC (s.1 (a + 1)) g) : wpX8_orders a s Q = Q (nI (no g)) s := by
  unfold wpX8_orders
  rw [show gi s (a + 1) 2 = nI (no g) from R.2.1.trans O.2.1.1]
theorem c_code {o : Nat} (hN : N ≤ 11) (O : okS N g) (R : repC (s.1 (a + 1)) g) (h : o < no g) : wpX8_code a (nI o) s Q = Q (nI (cd g o)) s := by
  have h0 := O.2.1.2
  unfold wpX8_code
  have e1 : 3 + nI o = nI (3 + o) := nI_add 3 o
  have e2 : gi s (a + 1) (3 + o) = nI (cd g o) := R.2.2.2.1 o h
  have e3 : ¬ 11 ≤ nI o := by
    rw [show (11 : Int32) = nI 11 from rfl, nI_leI (by decide) (by omega)]
    omega
  simp only [ltz (show o < 2 ^ 31 by omega), e3, e1, nI_clamp (show 3 + o < 2 ^ 31 by omega), e2, false_implies, true_and, not_false_eq_true, true_implies, vp_in_nI (show 3 + o < 170 by omega) (by decide)]
theorem c_hasOrder {x : Int32} (O : okS N g) (R : repC (s.1 (a + 1)) g) : wpX8_hasOrder a x s Q = Q (bi (decide (0 ≤ x) && decide (x < nI (no g)))) s := by
  unfold wpX8_hasOrder
  rw [c_orders O R]
  by_cases h1 : x < 0
  · have : ¬ 0 ≤ x := by simpa using h1
    simp [h1, this, bi]
  · have h1' : 0 ≤ x := by simpa using h1
    by_cases h2 : nI (no g) ≤ x
    · have : ¬ x < nI (no g) := by simpa using h2
      simp [h1, h2, this, bi]
    · have : x < nI (no g) := by simpa using h2
      simp [h1, h1', h2, this, bi]
theorem cd_y {k x y : Nat} (h1 : k < 5) (h2 : x < 6) (h3 : y < 6) : jrem (nI (100 * k + 10 * x + y)) 10 = nI y ∧ jrem (nI (100 * k + 10 * x + y) / 10) 10 = nI x ∧ nI (100 * k + 10 * x + y) / 100 = nI k := by
  have : ∀ k, k < 5 → ∀ x, x < 6 → ∀ y, y < 6 → jrem (nI (100 * k + 10 * x + y)) 10 = nI y ∧ jrem (nI (100 * k + 10 * x + y) / 10) 10 = nI x ∧ nI (100 * k + 10 * x + y) / 100 = nI k := by decide +kernel
  exact this k h1 x h2 y h3
theorem c_both {o : Nat} (O : okS N g) (R : repC (s.1 (a + 1)) g) (h : o < no g) : wpX8_bothAreTold a (nI (cd g o)) s Q = Q (bi (tl g (ox g o) && tl g (oy g o))) s := by
  obtain ⟨-, -, -, h1, h2, h3, -⟩ := O.2.2.1 o h
  obtain ⟨e1, e2, e3⟩ := cd_y h1 h2 h3
  unfold wpX8_bothAreTold
  rw [show cd g o = 100 * kd g o + 10 * ox g o + oy g o from rfl, e1, e2, c_isTold R h2, c_isTold R h3]
  simp only [bi_0]
  cases tl g (ox g o) <;> cases tl g (oy g o) <;> simp [bi]
/-- whether an order holds by two readings -/
def hld (k : Nat) (f1 t1 f2 t2 : Int) : Bool := match k with
  | 0 => !decide (f2 ≤ t1)
  | 1 => !decide (t2 < f1) && !decide (t1 < f2)
  | 2 => !decide (f1 < f2) && !decide (t2 < t1)
  | 3 => decide (f1 = f2)
  | _ => !decide (7 < f2 - t1) && !decide (7 < f1 - t2)
theorem c_holds {k : Nat} {f1 t1 f2 t2 : Int} (hk : k < 5) (a1 : 0 ≤ f1 ∧ f1 ≤ 9999) (a2 : 0 ≤ t1 ∧ t1 ≤ 9999) (a3 : 0 ≤ f2 ∧ f2 ≤ 9999) (a4 : 0 ≤ t2 ∧ t2 ≤ 9999) : wpX8_holds (nI k) (iI f1) (iI t1) (iI f2) (iI t2) s Q = Q (bi (hld k f1 t1 f2 t2)) s := by
  unfold wpX8_holds
  have h5 : k = 0 ∨ k = 1 ∨ k = 2 ∨ k = 3 ∨ k = 4 := by omega
  rcases h5 with rfl | rfl | rfl | rfl | rfl
  all_goals simp only [show (nI 0 = 0) = True by decide, show (nI 0 = 1) = False by decide, show (nI 0 = 2) = False by decide, show (nI 0 = 3) = False by decide, show (nI 1 = 0) = False by decide, show (nI 1 = 1) = True by decide, show (nI 1 = 2) = False by decide, show (nI 1 = 3) = False by decide, show (nI 2 = 0) = False by decide, show (nI 2 = 1) = False by decide, show (nI 2 = 2) = True by decide, show (nI 2 = 3) = False by decide, show (nI 3 = 0) = False by decide, show (nI 3 = 1) = False by decide, show (nI 3 = 2) = False by decide, show (nI 3 = 3) = True by decide, show (nI 4 = 0) = False by decide, show (nI 4 = 1) = False by decide, show (nI 4 = 2) = False by decide, show (nI 4 = 3) = False by decide, false_implies, true_implies, not_true_eq_false, not_false_eq_true, and_true, true_and]
  · simp (disch := omega) only [iI_le]
    by_cases h : f2 ≤ t1 <;> simp only [h, hld, bi] <;> simp
  · simp (disch := omega) only [iI_lt]
    by_cases h : t2 < f1 <;> by_cases h2 : t1 < f2 <;> simp only [h, h2, hld, bi] <;> simp
  · simp (disch := omega) only [iI_lt]
    by_cases h : f1 < f2 <;> by_cases h2 : t2 < t1 <;> simp only [h, h2, hld, bi] <;> simp
  · simp (disch := omega) only [iI_eq]
    by_cases h : f1 = f2 <;> simp only [h, hld, bi] <;> simp
  · simp (disch := omega) only [show (7 : Int32) = iI 7 from rfl, iI_sub, iI_lt]
    by_cases h : 7 < f2 - t1 <;> by_cases h2 : 7 < f1 - t2 <;> simp only [h, h2, hld, bi] <;> simp
end STORY
