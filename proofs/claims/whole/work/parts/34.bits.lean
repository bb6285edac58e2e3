/-! bits -/
def bts (n : Nat) (p : Nat → Bool) : Nat := match n with
  | 0 => 0
  | n + 1 => bts n p + (if p n then 2 ^ n else 0)
def cnt (n : Nat) (p : Nat → Bool) : Nat := match n with
  | 0 => 0
  | n + 1 => cnt n p + (if p n then 1 else 0)
theorem bts_s (n : Nat) (p : Nat → Bool) : bts (n + 1) p = bts n p + (if p n then 2 ^ n else 0) := rfl
theorem cnt_s (n : Nat) (p : Nat → Bool) : cnt (n + 1) p = cnt n p + (if p n then 1 else 0) := rfl
theorem bts_lt (n : Nat) (p : Nat → Bool) : bts n p < 2 ^ n := by
  induction n with
  | zero => simp [bts]
  | succ n ih =>
    unfold bts
    have : 2 ^ (n + 1) = 2 ^ n + 2 ^ n := by rw [Nat.pow_succ]; omega
    split <;> omega
theorem bts_64 (p : Nat → Bool) : bts 6 p < 64 := bts_lt 6 p
theorem bts_tb (n : Nat) (p : Nat → Bool) (i : Nat) : (bts n p).testBit i = (decide (i < n) && p i) := by
  induction n with
  | zero => simp [bts]
  | succ n ih =>
    have hl := bts_lt n p
    have e : bts (n + 1) p = 2 ^ n * (p n).toNat + bts n p := by
      rw [bts_s]
      cases p n <;> simp <;> omega
    rw [e, Nat.testBit_two_pow_mul_add _ hl]
    by_cases h : i < n
    · rw [if_pos h, ih]
      simp [h, show i < n + 1 by omega]
    · rw [if_neg h]
      by_cases h2 : i = n
      · subst h2
        simp
        cases p i <;> rfl
      · have h3 : ¬ i < n + 1 := by omega
        have h4 : (p n).toNat.testBit (i - n) = false := by
          apply Nat.testBit_lt_two_pow
          have : 2 ^ 1 ≤ 2 ^ (i - n) := Nat.pow_le_pow_right (by decide) (by omega)
          cases p n <;> simp <;> omega
        rw [h4]
        simp [h3]
theorem bts_ext {n : Nat} {p : Nat → Bool} {b : Nat} (hb : b < 2 ^ n) (h : ∀ i, i < n → b.testBit i = p i) : b = bts n p := by
  apply Nat.eq_of_testBit_eq
  intro i
  rw [bts_tb]
  by_cases hi : i < n
  · simp [hi, h i hi]
  · simp [hi]
    exact Nat.testBit_lt_two_pow (Nat.lt_of_lt_of_le hb (Nat.pow_le_pow_right (by decide) (by omega)))
theorem bts_cg {n : Nat} {p q : Nat → Bool} (h : ∀ i, i < n → p i = q i) : bts n p = bts n q := bts_ext (bts_lt n p) (fun i hi => by rw [bts_tb]; simp [hi, h i hi])
theorem cnt_cg {n : Nat} {p q : Nat → Bool} (h : ∀ i, i < n → p i = q i) : cnt n p = cnt n q := by
  induction n with
  | zero => rfl
  | succ n ih =>
    unfold cnt
    rw [ih (fun i hi => h i (by omega)), h n (by omega)]
theorem cnt_le (n : Nat) (p : Nat → Bool) : cnt n p ≤ n := by
  induction n with
  | zero => exact Nat.le_refl _
  | succ n ih =>
    unfold cnt
    split <;> omega
theorem bts_6 {b : Nat} (h : b < 64) : b = bts 6 b.testBit := bts_ext h (fun _ _ => rfl)
theorem bts_eq0 {n : Nat} {p : Nat → Bool} : (bts n p = 0) ↔ ∀ i, i < n → p i = false := by
  constructor
  · intro h i hi
    have := bts_tb n p i
    rw [h] at this
    simpa [hi] using this.symm
  · intro h
    rw [bts_cg (q := fun _ => false) h]
    exact (bts_ext (p := fun _ => false) (b := 0) (Nat.two_pow_pos n) (fun i _ => by simp)).symm
def bi (b : Bool) : Int32 := if b then 1 else 0
theorem bi_0 (b : Bool) : (bi b = 0) = (b = false) := by cases b <;> decide
theorem bi_1 (b : Bool) : (bi b = 1) = (b = true) := by cases b <;> decide
theorem bi_01 (b : Bool) : (bi b = 0 ∨ bi b = 1) := by cases b <;> decide
theorem sh6 {b i : Nat} (hb : b < 64) (hi : i < 6) : ((jshr (nI b) (nI i)) &&& 1) = bi (b.testBit i) := by
  have h : ∀ b, b < 64 → ∀ i, i < 6 → ((jshr (nI b) (nI i)) &&& 1) = bi (b.testBit i) := by decide +kernel
  exact h b hb i hi
theorem sh6b {p : Nat → Bool} {i : Nat} (hi : i < 6) : ((jshr (nI (bts 6 p)) (nI i)) &&& 1) = bi (p i) := by
  rw [sh6 (bts_64 p) hi, bts_tb]
  simp [hi]
theorem shl6 {i : Nat} (hi : i < 31) : jshl 1 (nI i) = nI (2 ^ i) := by
  have h : ∀ i, i < 31 → jshl 1 (nI i) = nI (2 ^ i) := by decide +kernel
  exact h i hi
theorem nI_or {a b : Nat} (ha : a < 2 ^ 31) (hb : b < 2 ^ 31) : nI a ||| nI b = nI (a ||| b) := by
  have ea : (nI a).toUInt32.toNat = a := by
    show (UInt32.ofNat a).toNat = a
    rw [UInt32.toNat_ofNat']; omega
  have eb : (nI b).toUInt32.toNat = b := by
    show (UInt32.ofNat b).toNat = b
    rw [UInt32.toNat_ofNat']; omega
  apply i32_nat
  · show ((nI a).toUInt32 ||| (nI b).toUInt32).toNat = _
    rw [UInt32.toNat_or, ea, eb]
  · exact Nat.or_lt_two_pow ha hb
theorem nI_and {a b : Nat} (ha : a < 2 ^ 31) (hb : b < 2 ^ 31) : nI a &&& nI b = nI (a &&& b) := by
  have ea : (nI a).toUInt32.toNat = a := by
    show (UInt32.ofNat a).toNat = a
    rw [UInt32.toNat_ofNat']; omega
  have eb : (nI b).toUInt32.toNat = b := by
    show (UInt32.ofNat b).toNat = b
    rw [UInt32.toNat_ofNat']; omega
  apply i32_nat
  · show ((nI a).toUInt32 &&& (nI b).toUInt32).toNat = _
    rw [UInt32.toNat_and, ea, eb]
  · exact Nat.and_lt_two_pow _ hb
theorem nI_xor {a b : Nat} (ha : a < 2 ^ 31) (hb : b < 2 ^ 31) : nI a ^^^ nI b = nI (a ^^^ b) := by
  have ea : (nI a).toUInt32.toNat = a := by
    show (UInt32.ofNat a).toNat = a
    rw [UInt32.toNat_ofNat']; omega
  have eb : (nI b).toUInt32.toNat = b := by
    show (UInt32.ofNat b).toNat = b
    rw [UInt32.toNat_ofNat']; omega
  apply i32_nat
  · show ((nI a).toUInt32 ^^^ (nI b).toUInt32).toNat = _
    rw [UInt32.toNat_xor, ea, eb]
  · exact Nat.xor_lt_two_pow ha hb
theorem bts_or {n : Nat} {p q : Nat → Bool} : bts n p ||| bts n q = bts n (fun i => p i || q i) := bts_ext (Nat.or_lt_two_pow (bts_lt n p) (bts_lt n q)) (fun i hi => by simp [Nat.testBit_or, bts_tb, hi])
theorem bts_and {n : Nat} {p q : Nat → Bool} : bts n p &&& bts n q = bts n (fun i => p i && q i) := bts_ext (Nat.and_lt_two_pow _ (bts_lt n q)) (fun i hi => by simp [Nat.testBit_and, bts_tb, hi])
theorem bts_xor {n : Nat} {p q : Nat → Bool} : bts n p ^^^ bts n q = bts n (fun i => p i ^^ q i) := bts_ext (Nat.xor_lt_two_pow (bts_lt n p) (bts_lt n q)) (fun i hi => by simp [Nat.testBit_xor, bts_tb, hi])
theorem bts_one {n i : Nat} (h : i < n) : 2 ^ i = bts n (fun k => k == i) := bts_ext (Nat.pow_lt_pow_right (by decide) h) (fun k hk => by
  rw [Nat.testBit_two_pow]
  by_cases e : i = k
  · subst e; simp
  · simp [e]
    omega)
theorem bor6 {p : Nat → Bool} {i : Nat} (hi : i < 6) : nI (bts 6 p) ||| jshl 1 (nI i) = nI (bts 6 (fun k => p k || k == i)) := by
  have h1 := bts_64 p
  have h2 : 2 ^ i < 2 ^ 31 := Nat.pow_lt_pow_right (by decide) (by omega)
  rw [shl6 (by omega), nI_or (by omega) h2, bts_one hi, bts_or]
theorem bnot6 {p : Nat → Bool} {i : Nat} (hi : i < 6) : nI (bts 6 p) &&& (jshl 1 (nI i) ^^^ (-1)) = nI (bts 6 (fun k => p k && !(k == i))) := by
  have h : ∀ b, b < 64 → ∀ i, i < 6 → ∀ r, r < 64 → (∀ k, k < 6 → r.testBit k = (b.testBit k && !(k == i))) → nI b &&& (jshl 1 (nI i) ^^^ (-1)) = nI r := by decide +kernel
  exact h _ (bts_64 p) i hi _ (bts_64 _) (fun k hk => by simp [bts_tb, hk])
theorem bxor6 {p : Nat → Bool} {i : Nat} (hi : i < 6) : nI (bts 6 p) ^^^ jshl 1 (nI i) = nI (bts 6 (fun k => p k ^^ k == i)) := by
  have h1 := bts_64 p
  have h2 : 2 ^ i < 2 ^ 31 := Nat.pow_lt_pow_right (by decide) (by omega)
  rw [shl6 (by omega), nI_xor (by omega) h2, bts_one hi, bts_xor]
theorem band6 {p q : Nat → Bool} : nI (bts 6 p) &&& nI (bts 6 q) = nI (bts 6 (fun k => p k && q k)) := by
  have h1 := bts_64 p
  have h2 := bts_64 q
  rw [nI_and (by omega) (by omega), bts_and]
theorem bdif6 {p q : Nat → Bool} : nI (bts 6 p) &&& (nI (bts 6 q) ^^^ (-1)) = nI (bts 6 (fun k => p k && !q k)) := by
  have h : ∀ b, b < 64 → ∀ c, c < 64 → nI b &&& (nI c ^^^ (-1)) = nI (b &&& (63 ^^^ c)) := by decide +kernel
  rw [h _ (bts_64 p) _ (bts_64 q)]
  congr 1
  refine bts_ext (Nat.and_lt_two_pow _ (Nat.xor_lt_two_pow (by decide) (bts_64 q))) (fun i hi => ?_)
  have : (63 : Nat).testBit i = true := by
    have : ∀ i, i < 6 → (63 : Nat).testBit i = true := by decide
    exact this i hi
  simp [Nat.testBit_and, Nat.testBit_xor, bts_tb, hi, this]
theorem b0_6 : (0 : Int32) = nI (bts 6 (fun _ => false)) := by decide +kernel
theorem b63_6 : (63 : Int32) = nI (bts 6 (fun _ => true)) := by decide +kernel
theorem bz6 {p : Nat → Bool} : (nI (bts 6 p) = 0) = ∀ i, i < 6 → p i = false := by
  have h1 := bts_64 p
  rw [show (0 : Int32) = nI 0 from rfl, nI_eq (by omega) (by decide), bts_eq0]
/-- Integer.bitCount below 1024 -/
theorem pop_10 {b : Nat} (h : b < 1024) : ∀ (s : gS) (Q : Int32 → gS → Prop), wpJ6_bitCount_0f7a4 (nI b) s Q = Q (nI (cnt 10 b.testBit)) s := by
  intro s Q
  unfold wpJ6_bitCount_0f7a4
  congr 1
  revert b h
  decide +kernel
theorem cnt_lt {n m : Nat} {p : Nat → Bool} (h : n ≤ m) (hp : ∀ i, n ≤ i → p i = false) : cnt m p = cnt n p := by
  induction m with
  | zero => rw [show n = 0 by omega]
  | succ m ih =>
    by_cases e : n = m + 1
    · rw [e]
    · rw [cnt_s, ih (by omega), hp m (by omega)]
      simp
theorem pop_6 {p : Nat → Bool} (s : gS) (Q : Int32 → gS → Prop) : wpJ6_bitCount_0f7a4 (nI (bts 6 p)) s Q = Q (nI (cnt 6 p)) s := by
  have h1 := bts_64 p
  rw [pop_10 (by omega), cnt_lt (n := 6) (by decide) (fun i hi => by rw [bts_tb]; simp; omega)]
  rw [cnt_cg (q := p) (fun i hi => by rw [bts_tb]; simp [hi])]
