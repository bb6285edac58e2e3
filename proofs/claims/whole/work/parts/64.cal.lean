/-! the calendar -/
def dA (i : Nat) : Nat := [0, 31, 59, 90, 120, 151, 181, 212, 243, 273, 304, 334].getD i 0
def mS (m : Nat) : Nat := m / 12 * 365 + (m / 12 + 3) / 4 + dA (m % 12) + (if m / 12 % 4 = 0 ∧ 1 < m % 12 then 1 else 0)
def mL (Y m : Nat) : Nat := if m = 2 then (if Y % 4 = 0 then 29 else 28) else if m = 4 ∨ m = 6 ∨ m = 9 ∨ m = 11 then 30 else 31
theorem mS_st : ∀ Y, Y < 30 → ∀ m, m < 12 → mS (12 * Y + m + 1) = mS (12 * Y + m) + mL Y (m + 1) := by decide +kernel
theorem mL_bd (Y m : Nat) : 28 ≤ mL Y m ∧ mL Y m ≤ 31 := by
  unfold mL
  split
  · split <;> omega
  · split <;> omega
theorem mS_0 (Y : Nat) : mS (12 * Y) = 365 * Y + (Y + 3) / 4 := by
  unfold mS
  rw [show 12 * Y / 12 = Y by omega, show 12 * Y % 12 = 0 by omega]
  simp [dA]
  omega
theorem mS_s {m : Nat} (h : m < 360) : mS (m + 1) = mS m + mL (m / 12) (m % 12 + 1) := by
  have := mS_st (m / 12) (by omega) (m % 12) (by omega)
  rw [show 12 * (m / 12) + m % 12 = m by omega] at this
  exact this
theorem mS_mo {m n : Nat} (h : m ≤ n) (hn : n ≤ 360) : mS m + 28 * (n - m) ≤ mS n := by
  induction n with
  | zero => rw [show m = 0 by omega]; simp
  | succ n ih =>
    by_cases e : m = n + 1
    · rw [e]; simp
    · have h1 := ih (by omega) (by omega)
      have h2 := mS_s (show n < 360 by omega)
      have h3 := (mL_bd (n / 12) (n % 12 + 1)).1
      omega
theorem mS_lt {m : Nat} (h : m ≤ 336) : mS m ≤ 10227 := by
  have h1 := mS_mo h (show 336 ≤ 360 by decide)
  have h2 : mS 336 = 10227 := by decide +kernel
  omega
def yr (d : Nat) : Nat := d / 1461 * 4 + (if d % 1461 < 366 then 0 else (d % 1461 - 1) / 365)
theorem yr_ok (d : Nat) : mS (12 * yr d) ≤ d ∧ d < mS (12 * (yr d + 1)) := by
  rw [mS_0, mS_0]
  unfold yr
  split <;> omega
theorem yr_le {d : Nat} (h : d ≤ 9999) : yr d ≤ 27 := by
  unfold yr
  split <;> omega
def moN (d : Nat) : Nat → Nat
  | 0 => 12 * yr d
  | n + 1 => if mS (moN d n + 1) ≤ d then moN d n + 1 else moN d n
def mo (d : Nat) : Nat := moN d 11
theorem moN_ok {d : Nat} (h : d ≤ 9999) : ∀ n, n ≤ 11 → mS (moN d n) ≤ d ∧ 12 * yr d ≤ moN d n ∧ moN d n ≤ 12 * yr d + n ∧ (moN d n = 12 * yr d + n ∨ d < mS (moN d n + 1)) := by
  intro n
  induction n with
  | zero => intro _; exact ⟨(yr_ok d).1, Nat.le_refl _, Nat.le_refl _, Or.inl rfl⟩
  | succ n ih =>
    intro hn
    obtain ⟨h1, h2, h3, h4⟩ := ih (by omega)
    unfold moN
    split
    next hc =>
      refine ⟨hc, by omega, by omega, ?_⟩
      rcases h4 with h4 | h4
      · exact Or.inl (by omega)
      · omega
    next hc => exact ⟨h1, h2, by omega, Or.inr (by omega)⟩
theorem mo_ok {d : Nat} (h : d ≤ 9999) : mS (mo d) ≤ d ∧ d < mS (mo d + 1) ∧ mo d / 12 = yr d ∧ mo d < 336 := by
  obtain ⟨h1, h2, h3, h4⟩ := moN_ok h 11 (Nat.le_refl _)
  have hy := yr_le h
  unfold mo
  refine ⟨h1, ?_, by omega, by omega⟩
  rcases h4 with h4 | h4
  · rw [h4, show 12 * yr d + 11 + 1 = 12 * (yr d + 1) by omega]
    exact (yr_ok d).2
  · exact h4
theorem mo_un {d m : Nat} (h : d ≤ 9999) (hm : m ≤ 348) (h1 : mS m ≤ d) (h2 : d < mS (m + 1)) : m = mo d := by
  obtain ⟨a1, a2, a3, a4⟩ := mo_ok h
  apply Classical.byContradiction
  intro hne
  rcases Nat.lt_or_ge m (mo d) with h3 | h3
  · have := mS_mo (show m + 1 ≤ mo d by omega) (by omega)
    omega
  · have := mS_mo (show mo d + 1 ≤ m by omega) (by omega)
    omega
section CAL
variable {s : gS} {Q : Int32 → gS → Prop}
theorem nI_div {a b : Nat} (ha : a < 2 ^ 31) (hb : 0 < b) (hb2 : b < 2 ^ 31) : nI a / nI b = nI (a / b) := by
  rw [nI_i, nI_i, iI_div (by omega) (by omega) (by omega) (by omega), nI_i]
  congr 1
theorem nI_rem {a b : Nat} (ha : a < 2 ^ 31) (hb : 0 < b) (hb2 : b < 2 ^ 31) : jrem (nI a) (nI b) = nI (a % b) := by
  rw [nI_i, nI_i, iI_rem (by omega) (by omega) (by omega) (by omega), nI_i]
  congr 1
theorem nI_mul (a b : Nat) : nI a * nI b = nI (a * b) := by
  rw [nI_i, nI_i, iI_mul, nI_i]
  congr 1
theorem days_v : ∀ i, i < 12 → g_days.getD i 0 = nI (dA i) := by decide +kernel
theorem c_mStart {m : Nat} (h : m ≤ 336) : wpX0_monthStart (nI m) s Q = Q (nI (mS m)) s := by
  unfold wpX0_monthStart wX0_monthStart_38 wX0_monthStart_39
  have e1 : nI m / 12 = nI (m / 12) := nI_div (b := 12) (by omega) (by decide) (by decide)
  have e2 : jrem (nI m) 12 = nI (m % 12) := nI_rem (b := 12) (by omega) (by decide) (by decide)
  have e3 : jrem (nI (m / 12)) 4 = nI (m / 12 % 4) := nI_rem (b := 4) (by omega) (by decide) (by decide)
  have e4 : nI (m / 12) * 365 = nI (m / 12 * 365) := nI_mul _ 365
  have e5 : nI (m / 12) + 3 = nI (m / 12 + 3) := nI_add _ 3
  have e6 : nI (m / 12 + 3) / 4 = nI ((m / 12 + 3) / 4) := nI_div (b := 4) (by omega) (by decide) (by decide)
  have e7 : (nI (m / 12 % 4) = 0) = (m / 12 % 4 = 0) := by rw [show (0 : Int32) = nI 0 from rfl, nI_eq (by omega) (by decide)]
  have e8 : (nI (m % 12) ≤ 1) = (m % 12 ≤ 1) := by rw [show (1 : Int32) = nI 1 from rfl, nI_leI (by omega) (by decide)]
  have e9 : (nI m ≤ 336) = True := by
    rw [show (336 : Int32) = nI 336 from rfl, nI_leI (by omega) (by decide)]
    simp; omega
  simp only [ltz (show m < 2 ^ 31 by omega), e9, e1, e2, e3, e4, e5, e6, e7, e8, ix_nI (show m % 12 < 2 ^ 31 by omega), days_v (m % 12) (by omega), vp_in_nI (show m % 12 < 12 by omega) (show 12 < 2 ^ 31 by decide), nI_add, false_implies, true_and, not_false_eq_true, true_implies, not_true_eq_false, and_true, show ∀ z, nI z + 0 = nI z from fun z => Int32.add_zero _, nI_1]
  unfold mS
  by_cases h1 : m / 12 % 4 = 0
  · by_cases h2 : m % 12 ≤ 1
    · simp [h1, h2, show ¬ 1 < m % 12 by omega]
    · simp [h1, h2, show 1 < m % 12 by omega]
  · simp [h1]
theorem c_mStart0 {z : Int} (h1 : -2147483648 ≤ z) (h2 : z ≤ 2147483647) (h : z < 0 ∨ 336 < z) : wpX0_monthStart (iI z) s Q = Q (-1) s := by
  unfold wpX0_monthStart
  rw [show (0 : Int32) = iI 0 from rfl, show (336 : Int32) = iI 336 from rfl, iI_lt h1 h2 (by decide) (by decide), iI_le h1 h2 (by decide) (by decide)]
  rcases h with h | h
  · simp [h]
  · simp [show ¬ z < 0 by omega, show ¬ z ≤ 336 by omega]
theorem c_yearOf {d : Nat} (h : d ≤ 9999) : wpX0_yearOf (nI d) s Q = Q (nI (yr d)) s := by
  unfold wpX0_yearOf
  have e1 : jrem (nI d) 1461 = nI (d % 1461) := nI_rem (b := 1461) (by omega) (by decide) (by decide)
  have e2 : nI d / 1461 = nI (d / 1461) := nI_div (b := 1461) (by omega) (by decide) (by decide)
  have e3 : nI (d / 1461) * 4 = nI (d / 1461 * 4) := nI_mul _ 4
  have e5 : (366 ≤ nI (d % 1461)) = (366 ≤ d % 1461) := by rw [show (366 : Int32) = nI 366 from rfl, nI_leI (by decide) (by omega)]
  rw [e1, e2, e3, e5]
  unfold yr
  by_cases h1 : 366 ≤ d % 1461
  · have e4 : nI (d % 1461) - 1 = nI (d % 1461 - 1) := by
      rw [show nI (d % 1461) = nI (d % 1461 - 1 + 1) by congr 1; omega]
      exact nI_pred _
    have e6 : nI (d % 1461 - 1) / 365 = nI ((d % 1461 - 1) / 365) := nI_div (b := 365) (by omega) (by decide) (by decide)
    rw [e4, e6, nI_add]
    simp [h1, show ¬ d % 1461 < 366 by omega]
  · rw [show ∀ z, nI z + 0 = nI z from fun z => Int32.add_zero _]
    simp [h1, show d % 1461 < 366 by omega]
theorem c_monthOf {d : Nat} (h : d ≤ 9999) (k : Q (nI (mo d)) s) : wpX0_monthOf (nI d) s Q := by
  have hy := yr_le h
  unfold wpX0_monthOf
  rw [c_yearOf h, show nI (yr d) * 12 = nI (12 * yr d) from by rw [show (12 : Int32) = nI 12 from rfl, nI_mul, Nat.mul_comm]]
  have Lp : ∀ n i, i + n = 11 → wX0_monthOf_10 (nI d) Q (n + 1) (nI (moN d i)) (nI (i + 1)) s := by
    intro n
    induction n with
    | zero =>
      intro i hi
      have : i = 11 := by omega
      subst this
      rw [wX0_monthOf_10]
      exact ⟨fun _ => k, fun h => absurd (by decide) h⟩
    | succ n ih =>
      intro i hi
      obtain ⟨h1, h2, h3, h4⟩ := moN_ok h i (by omega)
      have := ih (i + 1) (by omega)
      rw [moN] at this
      have hmS := mS_lt (show moN d i + 1 ≤ 336 by omega)
      rw [wX0_monthOf_10]
      refine ⟨fun hc => ?_, fun _ => ?_⟩
      · rw [show (12 : Int32) = nI 12 from rfl, nI_leI (by decide) (by omega)] at hc; omega
      · rw [nI_1, nI_1, c_mStart (by omega), nI_ltI (by omega) (by omega)]
        refine ⟨fun hc => ?_, fun hc => ?_⟩
        · rw [if_neg (by omega)] at this; exact this
        · rw [if_pos (by omega)] at this; exact this
  exact ⟨12, Lp 11 0 rfl⟩
/-- the reference -/
theorem m_ahead {Y : Nat} (h : Y < 100) : wpX12_aheadOf (nI (2000 + Y)) s Q = Q (nI (mS (12 * Y))) s := by
  unfold wpX12_aheadOf
  have e1 : nI (2000 + Y) - 2000 = nI Y := by
    rw [nI_i, show (2000 : Int32) = iI 2000 from rfl, iI_sub, nI_i]
    congr 1
    omega
  have e2 : nI Y + 3 = nI (Y + 3) := nI_add _ 3
  have e3 : nI (Y + 3) / 4 = nI ((Y + 3) / 4) := nI_div (b := 4) (by omega) (by decide) (by decide)
  have e4 : 365 * nI Y = nI (365 * Y) := nI_mul 365 Y
  rw [e1, e2, e3, e4, nI_add, mS_0]
theorem m_mLen {Y m : Nat} (hY : Y < 100) (h : m ≤ 12) : wpX12_monthLength (nI (2000 + Y)) (nI m) s Q = Q (nI (mL Y m)) s := by
  unfold wpX12_monthLength mL
  have e1 : jrem (nI (2000 + Y)) 4 = nI (Y % 4) := by
    rw [show (4 : Int32) = nI 4 from rfl, nI_rem (by omega) (by decide) (by decide)]
    congr 1
    omega
  have z : ∀ k : Nat, k < 100 → (nI m = nI k) = (m = k) := fun k hk => by rw [nI_eq (by omega) (by omega)]
  rw [e1, show (2 : Int32) = nI 2 from rfl, show (4 : Int32) = nI 4 from rfl, show (6 : Int32) = nI 6 from rfl, show (9 : Int32) = nI 9 from rfl, show (11 : Int32) = nI 11 from rfl, show (0 : Int32) = nI 0 from rfl, z 2 (by decide), z 4 (by decide), z 6 (by decide), z 9 (by decide), z 11 (by decide), nI_eq (show Y % 4 < 2 ^ 31 by omega) (by decide)]
  by_cases h2 : m = 2
  · by_cases h4 : Y % 4 = 0
    · simp [h2, h4]; exact Iff.rfl
    · simp [h2, h4]; exact Iff.rfl
  · by_cases a : m = 4
    · simp [a]; exact Iff.rfl
    · by_cases b : m = 6
      · simp [b]; exact Iff.rfl
      · by_cases c : m = 9
        · simp [c]; exact Iff.rfl
        · by_cases d : m = 11
          · simp [d]; exact Iff.rfl
          · simp [h2, a, b, c, d]; exact Iff.rfl
theorem m_mDay {Y m : Nat} (hY : Y < 29) (h1 : 1 ≤ m) (h2 : m ≤ 12) (k : Q (nI (mS (12 * Y + (m - 1)))) s) : wpX12_monthDay (nI (2000 + Y)) (nI m) s Q := by
  unfold wpX12_monthDay
  rw [m_ahead (by omega)]
  have Lp : ∀ n i, i + n = m → 1 ≤ i → wX12_monthDay_7 (nI (2000 + Y)) (nI m) Q (n + 1) (nI (mS (12 * Y + (i - 1)))) (nI i) s := by
    intro n
    induction n with
    | zero =>
      intro i hi hi1
      have : i = m := by omega
      subst this
      rw [wX12_monthDay_7]
      exact ⟨fun _ => k, fun h => absurd (nI_le (Nat.le_refl _) (by omega)) h⟩
    | succ n ih =>
      intro i hi hi1
      have := ih (i + 1) (by omega) (by omega)
      have hs := mS_st Y (by omega) (i - 1) (by omega)
      rw [show i + 1 - 1 = i - 1 + 1 by omega, ← Nat.add_assoc, hs, show i - 1 + 1 = i by omega] at this
      rw [wX12_monthDay_7]
      refine ⟨fun hc => ?_, fun _ => ?_⟩
      · rw [nI_leI (by omega) (by omega)] at hc; omega
      · rw [m_mLen (by omega) (by omega), nI_add, nI_1]
        exact this
  exact ⟨m - 1 + 1, Lp (m - 1) 1 (by omega) (Nat.le_refl _)⟩
theorem m_yearOf {d : Nat} (h : d ≤ 9999) (k : Q (nI (2000 + yr d)) s) : wpX12_yearOf (nI d) s Q := by
  have hy := yr_le h
  obtain ⟨y1, y2⟩ := yr_ok d
  have Lp : ∀ n Y, Y + n = yr d → wX12_yearOf_4 (nI d) Q (n + 1) (nI (2000 + Y)) s := by
    intro n
    induction n with
    | zero =>
      intro Y hY
      have : Y = yr d := by omega
      subst this
      rw [wX12_yearOf_4, nI_1, show 2000 + yr d + 1 = 2000 + (yr d + 1) by omega, m_ahead (by omega)]
      have hb := mS_lt (show 12 * (yr d + 1) ≤ 336 by omega)
      rw [nI_ltI (by omega) (by omega)]
      exact ⟨fun _ => k, fun h => absurd y2 h⟩
    | succ n ih =>
      intro Y hY
      rw [wX12_yearOf_4, nI_1, show 2000 + Y + 1 = 2000 + (Y + 1) by omega, m_ahead (by omega)]
      have hb := mS_lt (show 12 * (Y + 1) ≤ 336 by omega)
      have hm := mS_mo (show 12 * (Y + 1) ≤ 12 * yr d by omega) (by omega)
      rw [nI_ltI (by omega) (by omega)]
      exact ⟨fun hc => by omega, fun _ => ih (Y + 1) (by omega)⟩
  exact ⟨yr d + 1, Lp (yr d) 0 (by omega)⟩
theorem m_monthOf {d : Nat} (h : d ≤ 9999) (k : Q (nI (mo d % 12 + 1)) s) : wpX12_monthOf (nI d) s Q := by
  have hy := yr_le h
  obtain ⟨o1, o2, o3, o4⟩ := mo_ok h
  unfold wpX12_monthOf
  refine m_yearOf h ?_
  have Lp : ∀ n c, c + n = mo d % 12 → wX12_monthOf_7 (nI d) Q (n + 1) (nI (2000 + yr d)) (nI (c + 1)) s := by
    intro n
    induction n with
    | zero =>
      intro c hc
      have : c = mo d % 12 := by omega
      subst this
      rw [wX12_monthOf_7]
      refine ⟨fun _ => k, fun h12 => ?_⟩
      rw [nI_1]
      have h11 : mo d % 12 < 11 := by
        rw [show (12 : Int32) = nI 12 from rfl, nI_leI (by decide) (by omega)] at h12
        omega
      refine m_mDay (by omega) (by omega) (by omega) ?_
      rw [show 12 * yr d + (mo d % 12 + 1 + 1 - 1) = mo d + 1 by omega]
      have hb := mS_lt (show mo d + 1 ≤ 336 by omega)
      rw [nI_ltI (by omega) (by omega)]
      exact ⟨fun _ => k, fun h => absurd o2 h⟩
    | succ n ih =>
      intro c hc
      rw [wX12_monthOf_7]
      refine ⟨fun h12 => ?_, fun _ => ?_⟩
      · rw [show (12 : Int32) = nI 12 from rfl, nI_leI (by decide) (by omega)] at h12; omega
      · rw [nI_1]
        refine m_mDay (by omega) (by omega) (by omega) ?_
        have hb := mS_lt (show 12 * yr d + (c + 1 + 1 - 1) ≤ 336 by omega)
        have hm := mS_mo (show 12 * yr d + (c + 1 + 1 - 1) ≤ mo d by omega) (by omega)
        rw [nI_ltI (by omega) (by omega)]
        exact ⟨fun hc => by omega, fun _ => ih (c + 1) (by omega)⟩
  exact ⟨mo d % 12 + 1, Lp (mo d % 12) 0 (by omega)⟩
theorem m_numberOf {d : Nat} (h : d ≤ 9999) (k : Q (nI (d - mS (mo d) + 1)) s) : wpX12_numberOf (nI d) s Q := by
  have hy := yr_le h
  obtain ⟨o1, o2, o3, o4⟩ := mo_ok h
  unfold wpX12_numberOf
  refine m_yearOf h (m_monthOf h (m_mDay (by omega) (by omega) (by omega) ?_))
  rw [show 12 * yr d + (mo d % 12 + 1 - 1) = mo d by omega]
  have e : nI d - nI (mS (mo d)) + 1 = nI (d - mS (mo d) + 1) := by
    rw [nI_i, nI_i, show (1 : Int32) = iI 1 from rfl, iI_sub, iI_add, nI_i]
    congr 1
    omega
  rw [e]
  exact k
/-- a day of a month, as both have it -/
def dIM (m n : Nat) : Int := if mS m + n ≤ mS (m + 1) ∧ mS m + n ≤ 10000 then (mS m : Int) + n - 1 else -1
theorem c_dInM {m : Nat} {z : Int} (hm : m < 336) (z1 : -2147483648 ≤ z) (z2 : z ≤ 2147483647) (k : Q (iI (if 1 ≤ z ∧ z ≤ 31 then dIM m z.toNat else -1)) s) : wpX0_dayInMonth (nI m) (iI z) s Q := by
  unfold wpX0_dayInMonth
  have e9 : ¬ (336 : Int32) ≤ nI m := by
    rw [show (336 : Int32) = nI 336 from rfl, nI_leI (by decide) (by omega)]
    omega
  refine ⟨fun h => absurd h (nI_pos (by omega)), fun _ => ⟨fun h => absurd h e9, fun _ => ?_⟩⟩
  rw [show (1 : Int32) = iI 1 from rfl, show (31 : Int32) = iI 31 from rfl, iI_lt z1 z2 (by decide) (by decide), iI_le z1 z2 (by decide) (by decide), ← show (1 : Int32) = iI 1 from rfl]
  by_cases hz : 1 ≤ z ∧ z ≤ 31
  · rw [if_pos hz] at k
    refine ⟨fun h => by omega, fun _ => ⟨fun _ => ?_, fun h => by omega⟩⟩
    have hb := mS_lt (show m ≤ 336 by omega)
    have hb2 := mS_lt (show m + 1 ≤ 336 by omega)
    have e1 : nI (mS m) + iI z - 1 = iI ((mS m : Int) + z - 1) := by rw [nI_i, show (1 : Int32) = iI 1 from rfl, iI_add, iI_sub]
    rw [c_mStart (by omega), nI_1, c_mStart (by omega), e1, nI_i, iI_le (by omega) (by omega) (by omega) (by omega), show (9999 : Int32) = iI 9999 from rfl, iI_lt (by decide) (by decide) (by omega) (by omega)]
    unfold dIM at k
    refine ⟨fun h => ?_, fun h => ⟨fun h2 => ?_, fun h2 => ?_⟩⟩
    · rw [if_neg (by omega)] at k; exact k
    · rw [if_neg (by omega)] at k; exact k
    · rw [if_pos (by omega)] at k
      rw [show (mS m : Int) + z - 1 = (mS m : Int) + (z.toNat : Int) - 1 by omega]
      exact k
  · rw [if_neg hz] at k
    exact ⟨fun _ => k, fun _ => ⟨fun h => by omega, fun _ => k⟩⟩
theorem m_dayOf {Y m : Nat} {z : Int} (hY : Y < 28) (h1 : 1 ≤ m) (h2 : m ≤ 12) (z1 : -2147483648 ≤ z) (z2 : z ≤ 2147483647) (k : Q (iI (if 1 ≤ z ∧ z ≤ 31 then dIM (12 * Y + (m - 1)) z.toNat else -1)) s) : wpX12_dayOf (nI (2000 + Y)) (nI m) (iI z) s Q := by
  unfold wpX12_dayOf
  have hml := mL_bd Y m
  have hs := mS_st Y (by omega) (m - 1) (by omega)
  rw [show m - 1 + 1 = m by omega] at hs
  have hb := mS_lt (show 12 * Y + (m - 1) ≤ 336 by omega)
  have i1 : wpX12_in (nI (2000 + Y)) 2000 2027 s = wpX12_in (iI ((2000 + Y : Nat) : Int)) (iI 2000) (iI 2027) s := by rw [nI_i]; rfl
  have i2 : wpX12_in (nI m) 1 12 s = wpX12_in (iI (m : Int)) (iI 1) (iI 12) s := by rw [nI_i]; rfl
  rw [i1, m_in (by omega) (by omega) (by decide) (by decide) (by decide) (by decide), show decide ((2000 : Int) ≤ ((2000 + Y : Nat) : Int) ∧ ((2000 + Y : Nat) : Int) ≤ 2027) = true by simp; omega]
  refine ⟨fun h => absurd h (by decide), fun _ => ?_⟩
  rw [i2, m_in (by omega) (by omega) (by decide) (by decide) (by decide) (by decide), show decide ((1 : Int) ≤ (m : Int) ∧ (m : Int) ≤ 12) = true by simp; omega]
  refine ⟨fun h => absurd h (by decide), fun _ => ?_⟩
  rw [m_mLen (by omega) h2]
  have i3 : wpX12_in (iI z) 1 (nI (mL Y m)) s = wpX12_in (iI z) (iI 1) (iI (mL Y m : Int)) s := by rw [nI_i]; rfl
  rw [i3, m_in z1 z2 (by decide) (by decide) (by omega) (by omega)]
  by_cases hz : 1 ≤ z ∧ z ≤ mL Y m
  · rw [show decide (1 ≤ z ∧ z ≤ (mL Y m : Int)) = true by simpa using hz]
    refine ⟨fun _ => m_mDay (by omega) h1 h2 ?_, fun h => absurd h (by decide)⟩
    have e1 : nI (mS (12 * Y + (m - 1))) + iI z - 1 = iI ((mS (12 * Y + (m - 1)) : Int) + z - 1) := by rw [nI_i, show (1 : Int32) = iI 1 from rfl, iI_add, iI_sub]
    rw [e1, m_isDay (by omega) (by omega)]
    rw [if_pos (by omega)] at k
    unfold dIM at k
    rw [hs] at k
    by_cases hd : 0 ≤ (mS (12 * Y + (m - 1)) : Int) + z - 1 ∧ (mS (12 * Y + (m - 1)) : Int) + z - 1 ≤ 9999
    · rw [show decide (0 ≤ (mS (12 * Y + (m - 1)) : Int) + z - 1 ∧ (mS (12 * Y + (m - 1)) : Int) + z - 1 ≤ 9999) = true by simpa using hd]
      rw [if_pos (by omega)] at k
      refine ⟨fun h => absurd h (by decide), fun _ => ?_⟩
      rw [show (mS (12 * Y + (m - 1)) : Int) + z - 1 = (mS (12 * Y + (m - 1)) : Int) + (z.toNat : Int) - 1 by omega]
      exact k
    · rw [show decide (0 ≤ (mS (12 * Y + (m - 1)) : Int) + z - 1 ∧ (mS (12 * Y + (m - 1)) : Int) + z - 1 ≤ 9999) = false by simpa using hd]
      rw [if_neg (by omega)] at k
      exact ⟨fun _ => k, fun h => absurd rfl h⟩
  · rw [show decide (1 ≤ z ∧ z ≤ (mL Y m : Int)) = false by simpa using hz]
    refine ⟨fun h => absurd rfl h, fun _ => ?_⟩
    by_cases hz2 : 1 ≤ z ∧ z ≤ 31
    · rw [if_pos hz2] at k
      unfold dIM at k
      rw [hs, if_neg (by omega)] at k
      exact k
    · rw [if_neg hz2] at k
      exact k
end CAL
