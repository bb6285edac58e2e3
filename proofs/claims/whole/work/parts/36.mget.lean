/-! the reference's story -/
section MGET
variable {N : Nat} {s : gS} {g : Nat → Int32} {Q : Int32 → gS → Prop}
theorem m_in {x : Int} {l h : Int} (a1 : -2147483648 ≤ x) (a2 : x ≤ 2147483647) (b1 : -2147483648 ≤ l) (b2 : l ≤ 2147483647) (c1 : -2147483648 ≤ h) (c2 : h ≤ 2147483647) : wpX12_in (iI x) (iI l) (iI h) s Q = Q (bi (decide (l ≤ x ∧ x ≤ h))) s := by
  unfold wpX12_in
  simp (disch := omega) only [iI_lt]
  by_cases h1 : x < l
  · simp [h1, bi, show ¬ l ≤ x by omega]
  · by_cases h2 : h < x
    · simp [h1, h2, bi, show ¬ x ≤ h by omega]
    · simp [h1, h2, bi, show l ≤ x by omega, show x ≤ h by omega]
theorem m_isEvent {e : Nat} (h : e < 6) : wpX12_isEvent (nI e) s Q = Q 1 s := by
  unfold wpX12_isEvent
  rw [nI_i, lit_i, lit_i, m_in (by omega) (by omega) (by decide) (by decide) (by decide) (by decide)]
  simp [bi, show (e : Int) ≤ 5 by omega]
theorem m_isEvent0 {x : Int32} (h : x < 0 ∨ 6 ≤ x) : wpX12_isEvent x s Q = Q 0 s := by
  unfold wpX12_isEvent
  obtain ⟨z, h1, h2, rfl⟩ := i_ex x
  simp (disch := omega) only [lit_i, iI_lt, iI_le] at h
  show wpX12_in (iI z) (iI 0) (iI 5) s _ = Q 0 s
  rw [m_in h1 h2 (by decide) (by decide) (by decide) (by decide)]
  have : ¬ ((0 : Int) ≤ z ∧ z ≤ 5) := by omega
  simp [this, bi]
theorem m_isTold {e : Nat} (M : s.1 178 = g) (h : e < 6) : wpX12_isTold (nI e) s Q = Q (bi (tl g e)) s := by
  unfold wpX12_isTold
  rw [m_isEvent h]
  have e1 : 2 + nI e = nI (2 + e) := nI_add 2 e
  have e2 : gi s 178 (2 + e) = g (2 + e) := by rw [← M]; rfl
  simp only [e1, nI_clamp (show 2 + e < 2 ^ 31 by omega), e2, vp_in_nI (show 2 + e < 218 by omega) (by decide), true_and]
  unfold tl
  by_cases h1 : g (2 + e) = -1 <;> simp [h1, bi]
theorem m_isTold0 {x : Int32} (h : x < 0 ∨ 6 ≤ x) : wpX12_isTold x s Q = Q 0 s := by
  unfold wpX12_isTold
  rw [m_isEvent0 h]
  simp
theorem m_of {e i w : Nat} (M : s.1 178 = g) (h : e < 6) (hi : i < 6) (hw : w < 5) : wpX12_of (nI e) (nI i) (nI w) s Q = Q (g (8 + 5 * (6 * e + i) + w)) s := by
  unfold wpX12_of wpX12_place
  have e1 : 8 + 5 * (6 * nI e + nI i) + nI w = nI (8 + 5 * (6 * e + i) + w) := by
    simp only [lit_i, nI_i, iI_add, iI_mul]
    congr 1
  have e2 : gi s 178 (8 + 5 * (6 * e + i) + w) = g (8 + 5 * (6 * e + i) + w) := by rw [← M]; rfl
  simp only [e1, nI_clamp (show 8 + 5 * (6 * e + i) + w < 2 ^ 31 by omega), e2, vp_in_nI (show 8 + 5 * (6 * e + i) + w < 218 by omega) (by decide), true_and]
theorem m_ofv {e i w : Nat} (M : s.1 178 = g) (h : e < 6) (hi : i < 6) (hw : w < 5) : wpX12_of (nI e) (nI i) (nI w) s Q = Q (iI (vl g e i w)) s := by
  rw [m_of M h hi hw]
  unfold vl
  rw [← i_of]
theorem okS_r {e i : Nat} (O : okS N g) (he : e < 6) (hi : i < mn g e) : (0 ≤ vl g e i 0 ∧ vl g e i 0 ≤ 9999) ∧ (0 ≤ vl g e i 1 ∧ vl g e i 1 ≤ 9999) := by
  obtain ⟨h1, h2, h3, -⟩ := O.2.2.2.2 e he i hi
  omega
theorem m_holdsBy {k x i y j : Nat} (M : s.1 178 = g) (O : okS N g) (hk : k < 5) (hx : x < 6) (hy : y < 6) (hi : i < mn g x) (hj : j < mn g y) : wpX12_holdsBy (nI k) (nI x) (nI i) (nI y) (nI j) s Q = Q (bi (hld k (vl g x i 0) (vl g x i 1) (vl g y j 0) (vl g y j 1))) s := by
  have hi6 : i < 6 := by have := (O.2.2.2.1 x hx).2; omega
  have hj6 : j < 6 := by have := (O.2.2.2.1 y hy).2; omega
  obtain ⟨a1, a2⟩ := okS_r O hx hi
  obtain ⟨a3, a4⟩ := okS_r O hy hj
  unfold wpX12_holdsBy
  have l0 : ∀ {x i : Nat} {s : gS} {Q : Int32 → gS → Prop}, s.1 178 = g → x < 6 → i < 6 → wpX12_of (nI x) (nI i) 0 s Q = Q (iI (vl g x i 0)) s := fun M hx hi => m_ofv M hx hi (w := 0) (by decide)
  have l1 : ∀ {x i : Nat} {s : gS} {Q : Int32 → gS → Prop}, s.1 178 = g → x < 6 → i < 6 → wpX12_of (nI x) (nI i) 1 s Q = Q (iI (vl g x i 1)) s := fun M hx hi => m_ofv M hx hi (w := 1) (by decide)
  rw [l0 M hx hi6, l1 M hx hi6, l0 M hy hj6, l1 M hy hj6]
  exact c_holds (s := s) (Q := Q) hk a1 a2 a3 a4
/-- the first reading from one on that is in -/
def fst_in (g : Nat → Int32) (e : Nat) : Nat → Nat → Int32
  | 0, _ => -1
  | n + 1, i => if inn g e i then nI i else fst_in g e n (i + 1)
theorem m_inFrom_l {e : Nat} (M : s.1 178 = g) (O : okS N g) (ht : tl g e = true) (h : e < 6) (x2 : Int32) : ∀ (n i : Nat), i + n = mn g e → wX12_inFrom_2 (nI e) x2 Q (n + 1) (nI i) s = Q (fst_in g e n i) s := by
  intro n
  have hm := (O.2.2.2.1 e h).2
  have hm1 := ((O.2.2.2.1 e h).1 ht).1
  have e1 : 2 + nI e = nI (2 + e) := nI_add 2 e
  have e2 : gi s 178 (2 + e) = nI (mn g e) := by rw [← hm1, ← M]; rfl
  induction n with
  | zero =>
    intro i hi
    unfold wX12_inFrom_2
    simp only [e1, nI_clamp (show 2 + e < 2 ^ 31 by omega), e2, vp_in_nI (show 2 + e < 218 by omega) (by decide), true_and]
    rw [nI_leI (by omega) (by omega)]
    simp [show mn g e ≤ i by omega, fst_in]
  | succ n ih =>
    intro i hi
    have i4 : (4 : Int32) = nI 4 := rfl
    have i1 : nI i + 1 = nI (i + 1) := nI_1 i
    have hin : inn g e i = (g (8 + 5 * (6 * e + i) + 4) == 1) := by unfold inn; simp [show i < mn g e by omega]
    rw [wX12_inFrom_2]
    simp only [e1, nI_clamp (show 2 + e < 2 ^ 31 by omega), e2, vp_in_nI (show 2 + e < 218 by omega) (by decide), true_and, i4, i1, m_of M h (show i < 6 by omega) (show 4 < 5 by decide), ih (i + 1) (by omega), nI_leI (show mn g e < 2 ^ 31 by omega) (show i < 2 ^ 31 by omega), fst_in, hin]
    by_cases h1 : g (8 + 5 * (6 * e + i) + 4) = 1
    · simp [h1, show ¬ mn g e ≤ i by omega]
    · simp [h1, show ¬ mn g e ≤ i by omega]
theorem m_inFrom {e i : Nat} (M : s.1 178 = g) (O : okS N g) (ht : tl g e = true) (h : e < 6) (hi : i ≤ mn g e) (k : Q (fst_in g e (mn g e - i) i) s) : wpX12_inFrom (nI e) (nI i) s Q := ⟨mn g e - i + 1, by
  rw [m_inFrom_l M O ht h _ _ _ (by omega)]
  exact k⟩
end MGET
