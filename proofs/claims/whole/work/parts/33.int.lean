/-! ints that are whole numbers -/
def iI (z : Int) : Int32 := Int32.ofInt z
theorem lit_i (n : Nat) : (OfNat.ofNat n : Int32) = iI (OfNat.ofNat n) := by
  show Int32.ofNat n = Int32.ofInt (Int.ofNat n)
  exact (Int32.ofInt_eq_ofNat (n := n)).symm
theorem nI_i (n : Nat) : nI n = iI (n : Int) := (Int32.ofInt_eq_ofNat (n := n)).symm
theorem iI_toInt {z : Int} (h1 : -2147483648 ≤ z) (h2 : z ≤ 2147483647) : (iI z).toInt = z := Int32.toInt_ofInt_of_le (by simpa using h1) (by
  show z < 2 ^ 31
  omega)
theorem i_of (x : Int32) : x = iI x.toInt := (Int32.ofInt_toInt x).symm
theorem i_lo (x : Int32) : -2147483648 ≤ x.toInt := Int32.le_toInt x
theorem i_hi (x : Int32) : x.toInt ≤ 2147483647 := by
  have := Int32.toInt_lt x
  omega
theorem i_ex (x : Int32) : ∃ z : Int, -2147483648 ≤ z ∧ z ≤ 2147483647 ∧ x = iI z := ⟨x.toInt, i_lo x, i_hi x, i_of x⟩
theorem iI_add (a b : Int) : iI a + iI b = iI (a + b) := (Int32.ofInt_add a b).symm
theorem iI_sub (a b : Int) : iI a - iI b = iI (a - b) := (Int32.ofInt_sub a b).symm
theorem iI_mul (a b : Int) : iI a * iI b = iI (a * b) := (Int32.ofInt_mul a b).symm
theorem iI_neg (a : Int) : -iI a = iI (-a) := (Int32.ofInt_neg a).symm
theorem iI_lt {a b : Int} (a1 : -2147483648 ≤ a) (a2 : a ≤ 2147483647) (b1 : -2147483648 ≤ b) (b2 : b ≤ 2147483647) : (iI a < iI b) = (a < b) := by
  rw [Int32.lt_iff_toInt_lt, iI_toInt a1 a2, iI_toInt b1 b2]
theorem iI_le {a b : Int} (a1 : -2147483648 ≤ a) (a2 : a ≤ 2147483647) (b1 : -2147483648 ≤ b) (b2 : b ≤ 2147483647) : (iI a ≤ iI b) = (a ≤ b) := by
  rw [Int32.le_iff_toInt_le, iI_toInt a1 a2, iI_toInt b1 b2]
theorem iI_eq {a b : Int} (a1 : -2147483648 ≤ a) (a2 : a ≤ 2147483647) (b1 : -2147483648 ≤ b) (b2 : b ≤ 2147483647) : (iI a = iI b) = (a = b) := by
  rw [← Int32.toInt_inj, iI_toInt a1 a2, iI_toInt b1 b2]
theorem iI_ix {z : Int} (h1 : -2147483648 ≤ z) (h2 : z ≤ 2147483647) : ix (iI z) = z.toNat := by
  show (iI z).toInt.toNat = z.toNat
  rw [iI_toInt h1 h2]
theorem iI_in {z : Int} {n : Nat} (h1 : -2147483648 ≤ z) (h2 : z ≤ 2147483647) : vp_in (iI z) n = (0 ≤ z ∧ z < n) := by
  rw [vp_in_iff, iI_toInt h1 h2]
theorem iI_tdiv {a b : Int} (a1 : -2147483648 < a) (a2 : a ≤ 2147483647) (b1 : 0 < b) (b2 : b ≤ 2147483647) : iI a / iI b = iI (a.tdiv b) := by
  apply Int32.toInt_inj.mp
  rw [Int32.toInt_div, iI_toInt (by omega) a2, iI_toInt (by omega) b2]
  have h1 : a.tdiv b ≤ 2147483647 := by
    rcases Int.le_total 0 a with h | h
    · rw [Int.tdiv_eq_ediv_of_nonneg h]
      exact Int.le_trans (Int.ediv_le_self b h) a2
    · have h5 : a.tdiv b = -((-a) / b) := by
        rw [← Int.tdiv_eq_ediv_of_nonneg (by omega), Int.neg_tdiv, Int.neg_neg]
      have := Int.ediv_nonneg (show 0 ≤ -a by omega) (Int.le_of_lt b1)
      omega
  have h2 : -2147483648 ≤ a.tdiv b := by
    rcases Int.le_total 0 a with h | h
    · rw [Int.tdiv_eq_ediv_of_nonneg h]
      have := Int.ediv_nonneg h (Int.le_of_lt b1)
      omega
    · have h5 : a.tdiv b = -((-a) / b) := by
        rw [← Int.tdiv_eq_ediv_of_nonneg (by omega), Int.neg_tdiv, Int.neg_neg]
      have := Int.ediv_le_self b (show 0 ≤ -a by omega)
      omega
  rw [iI_toInt h2 h1]
  exact Int.bmod_eq_of_le (by omega) (by omega)
theorem iI_div {a b : Int} (a1 : 0 ≤ a) (a2 : a ≤ 2147483647) (b1 : 0 < b) (b2 : b ≤ 2147483647) : iI a / iI b = iI (a / b) := by
  rw [iI_tdiv (by omega) a2 b1 b2, Int.tdiv_eq_ediv_of_nonneg a1]
theorem iI_trem {a b : Int} (a1 : -2147483648 < a) (a2 : a ≤ 2147483647) (b1 : 0 < b) (b2 : b ≤ 2147483647) : jrem (iI a) (iI b) = iI (a.tmod b) := by
  unfold jrem
  rw [iI_tdiv a1 a2 b1 b2, iI_mul, iI_sub]
  congr 1
  have := Int.tmod_add_mul_tdiv a b
  have e : a.tdiv b * b = b * a.tdiv b := Int.mul_comm _ _
  omega
theorem iI_rem {a b : Int} (a1 : 0 ≤ a) (a2 : a ≤ 2147483647) (b1 : 0 < b) (b2 : b ≤ 2147483647) : jrem (iI a) (iI b) = iI (a % b) := by
  rw [iI_trem (by omega) a2 b1 b2, Int.tmod_eq_emod_of_nonneg a1]
theorem iI_max {a b : Int} (a1 : -2147483648 ≤ a) (a2 : a ≤ 2147483647) (b1 : -2147483648 ≤ b) (b2 : b ≤ 2147483647) : jmax (iI a) (iI b) = iI (max a b) := by
  unfold jmax
  simp only [iI_lt a1 a2 b1 b2]
  split
  · congr 1; omega
  · congr 1; omega
theorem iI_min {a b : Int} (a1 : -2147483648 ≤ a) (a2 : a ≤ 2147483647) (b1 : -2147483648 ≤ b) (b2 : b ≤ 2147483647) : jmin (iI a) (iI b) = iI (min a b) := by
  unfold jmin
  simp only [iI_lt b1 b2 a1 a2]
  split
  · congr 1; omega
  · congr 1; omega
theorem ite_wp {c : Prop} [Decidable c] {A B : Prop} : ((c → A) ∧ (¬ c → B)) = if c then A else B := by
  by_cases h : c <;> simp [h]
theorem ite_wp2 {c : Prop} [Decidable c] {A B : Prop} : ((¬ c → B) ∧ (c → A)) = if c then A else B := by
  by_cases h : c <;> simp [h]
theorem one_n0 : ((1 : Int32) = 0) = False := by simp
theorem tst_1 (x y : Int) (h1 : 0 ≤ x) (h2 : x < 100) (h3 : 0 ≤ y) (h4 : y < 100) : (3 + iI x < 200 ∧ iI x * 5 + iI y = iI y + 5 * iI x ∧ vp_in (3 + iI x) 170 ∧ (-1) < iI x) := by
  simp (disch := omega) only [lit_i, iI_neg, iI_add, iI_mul, iI_lt, iI_le, iI_eq, iI_in]
  omega
