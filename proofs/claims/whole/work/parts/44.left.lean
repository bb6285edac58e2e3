/-! which readings are left, on both sides -/
def lf (g : Nat → Int32) (e i : Nat) : Bool := decide (0 < cw g e i)
theorem ins_len {N : Nat} {g : Nat → Int32} {e : Nat} (O : okS N g) (he : e < 6) : (ins g e).length = cnt 6 (inn g e) := by
  rw [insF_rg O he]
  have h : ∀ n, ((List.range' 0 n).flatMap fun i => if inn g e i then [nI i] else []).length = cnt n (inn g e) := by
    intro n
    induction n with
    | zero => rfl
    | succ n ih =>
      rw [List.range'_concat, List.flatMap_append, List.length_append, ih, cnt_s]
      congr 1
      simp
      split <;> rfl
  exact h 6
/-- how many picks there are -/
def prd (g : Nat → Int32) : Nat → Nat
  | 0 => 1
  | n + 1 => if tl g n then prd g n * cnt 6 (inn g n) else prd g n
theorem PN_len {N : Nat} {g : Nat → Int32} (O : okS N g) : ∀ n, n ≤ 6 → (PN g n).length = prd g n := by
  intro n
  induction n with
  | zero => intro _; rfl
  | succ n ih =>
    intro hn
    unfold PN prd
    split
    · rw [List.length_flatMap]
      simp only [List.length_map, ins_len O (show n < 6 by omega)]
      rw [List.map_const', List.sum_replicate_nat, ih (by omega)]
    · exact ih (by omega)
theorem prd_le {g : Nat → Int32} : ∀ n, prd g n ≤ 6 ^ n := by
  intro n
  induction n with
  | zero => exact Nat.le_refl _
  | succ n ih =>
    unfold prd
    rw [Nat.pow_succ]
    split
    · exact Nat.mul_le_mul ih (cnt_le 6 _)
    · omega
theorem allP_len {N : Nat} {g : Nat → Int32} (O : okS N g) : (allP g).length = if any g then prd g 6 else 0 := by
  unfold allP
  split
  · exact PN_len O 6 (Nat.le_refl _)
  · rfl
theorem allP_le {N : Nat} {g : Nat → Int32} (O : okS N g) : (allP g).length ≤ 46656 := by
  rw [allP_len O]
  have := prd_le (g := g) 6
  split <;> omega
theorem chs_le {N : Nat} {g : Nat → Int32} (O : okS N g) : (chs g).length ≤ 46656 := Nat.le_trans (List.length_filter_le _ _) (allP_le O)
theorem cw_le {N : Nat} {g : Nat → Int32} (O : okS N g) (e i : Nat) : cw g e i ≤ 46656 := Nat.le_trans List.countP_le_length (chs_le O)
/-- what is left is in -/
theorem lf_inn {N : Nat} {g : Nat → Int32} {e i : Nat} (he : e < 6) (hi : i < 6) (h : lf g e i = true) (O : okS N g) : inn g e i = true := by
  unfold lf cw at h
  simp only [decide_eq_true_eq] at h
  obtain ⟨q, hq, h2⟩ := List.countP_pos_iff.mp h
  rw [Bool.and_eq_true, beq_iff_eq] at h2
  obtain ⟨-, V, -⟩ := allP_ne (List.mem_filter.mp hq).1
  obtain ⟨k, h3, h4⟩ := (V e).1 ⟨he, h2.1⟩
  have hk := inn_lt h3
  have hm := (O.2.2.2.1 e he).2
  rw [h4, nI_eq (by omega) (by omega)] at h2
  exact h2.2 ▸ h3
section LEFT
variable {so N : Nat} {s : gS} {g : Nat → Int32} {Q : Int32 → gS → Prop}
theorem cw_z {e i : Nat} (O : okS N g) : (nI (cw g e i) ≤ 0) = (lf g e i = false) := by
  have := cw_le O e i
  rw [show (0 : Int32) = nI 0 from rfl, nI_leI (by omega) (by decide)]
  unfold lf
  simp
theorem c_leftBits {e : Nat} (O : okS N g) (S : SC so g s) (he : e < 6) (k : Q (nI (bts 6 (lf g e))) s) : wpX7_leftBits so (nI e) s Q := by
  have L : ∀ n i, i + n = 6 → wX7_leftBits_16 so (nI e) Q (n + 1) (nI (bts i (lf g e))) (nI i) s := by
    intro n
    induction n with
    | zero =>
      intro i hi
      have : i = 6 := by omega
      subst this
      rw [wX7_leftBits_16]
      exact ⟨fun _ => k, fun h => absurd (by decide) h⟩
    | succ n ih =>
      intro i hi
      have hi6 : i < 6 := by omega
      have e1 : nI e * 6 + nI i = nI (6 * e + i) := by
        simp only [lit_i, nI_i, iI_add, iI_mul]
        congr 1
        simp
        omega
      have e2 : gi s (so + 49) (6 * e + i) = nI (cw g e i) := S.2.2.2 e i he hi6
      have := ih (i + 1) (by omega)
      rw [bts_s] at this
      rw [wX7_leftBits_16, nI_1, bts_st (by omega)]
      simp only [ge6 hi6, e1, ix_nI (show 6 * e + i < 2 ^ 31 by omega), e2, cw_z O, vp_in_nI (show 6 * e + i < 36 by omega) (show 36 < 2 ^ 31 by decide), false_implies, true_and, not_false_eq_true, true_implies]
      cases hl : lf g e i with
      | false =>
        rw [hl] at this
        exact ⟨fun _ => by simpa using this, fun h => absurd rfl h⟩
      | true =>
        rw [hl] at this
        exact ⟨fun h => (by cases h), fun _ => by simpa using this⟩
  unfold wpX7_leftBits
  simp only [ltz (show e < 2 ^ 31 by omega), lt6 he, false_implies, true_and, not_false_eq_true, true_implies, not_true_eq_false, and_true]
  exact ⟨7, L 6 0 rfl⟩
theorem cnt_1 {n : Nat} {p : Nat → Bool} (hn : n < 1000) : (nI (cnt n p) ≤ 1) = (cnt n p ≤ 1) := by
  have := cnt_le n p
  rw [show (1 : Int32) = nI 1 from rfl, nI_leI (by omega) (by decide)]
def opq (g : Nat → Int32) (e : Nat) : Bool := decide (1 < cnt 6 (lf g e))
theorem c_open {e : Nat} (O : okS N g) (S : SC so g s) (he : e < 6) (k : Q (bi (opq g e)) s) : wpX7_hasOpenQuestion so (nI e) s Q := by
  unfold wpX7_hasOpenQuestion
  refine c_leftBits O S he ?_
  rw [pop_6, cnt_1 (by decide)]
  unfold opq at k
  refine ⟨fun h => ?_, fun h => ?_⟩
  · rw [show decide (1 < cnt 6 (lf g e)) = false by simp; omega] at k; exact k
  · rw [show decide (1 < cnt 6 (lf g e)) = true by simp; omega] at k; exact k
/-- all that is left -/
def lal (g : Nat → Int32) : Nat → Nat
  | 0 => 0
  | n + 1 => lal g n + cnt 6 (lf g n)
theorem lal_le (n : Nat) : lal g n ≤ 6 * n := by
  induction n with
  | zero => exact Nat.le_refl _
  | succ n ih =>
    unfold lal
    have := cnt_le 6 (lf g n)
    omega
theorem c_leftOfAll (O : okS N g) (S : SC so g s) (k : Q (nI (lal g 6)) s) : wpX7_leftOfAll so s Q := by
  have L : ∀ n m, m + n = 36 → wX7_leftOfAll_4 so Q (n + 1) (nI (lal g (m / 6) + cnt (m % 6) (lf g (m / 6)))) (nI m) s := by
    intro n
    induction n with
    | zero =>
      intro m hm
      have : m = 36 := by omega
      subst this
      rw [wX7_leftOfAll_4]
      exact ⟨fun _ => k, fun h => absurd (by decide) h⟩
    | succ n ih =>
      intro m hm
      have hle : (36 ≤ nI m) = False := by
        rw [show (36 : Int32) = nI 36 from rfl, nI_leI (by decide) (by omega)]
        simp; omega
      have e2 : gi s (so + 49) m = nI (cw g (m / 6) (m % 6)) := by
        have := S.2.2.2 (m / 6) (m % 6) (by omega) (by omega)
        rw [show 6 * (m / 6) + m % 6 = m by omega] at this
        exact this
      have hnx : lal g ((m + 1) / 6) + cnt ((m + 1) % 6) (lf g ((m + 1) / 6)) = lal g (m / 6) + cnt (m % 6) (lf g (m / 6)) + (if lf g (m / 6) (m % 6) then 1 else 0) := by
        by_cases h5 : m % 6 = 5
        · rw [show (m + 1) / 6 = m / 6 + 1 by omega, show (m + 1) % 6 = 0 by omega, lal, h5, show cnt 6 (lf g (m / 6)) = cnt 5 (lf g (m / 6)) + (if lf g (m / 6) 5 then 1 else 0) from rfl]
          simp [cnt]
          omega
        · rw [show (m + 1) / 6 = m / 6 by omega, show (m + 1) % 6 = m % 6 + 1 by omega, cnt_s]
          omega
      have := ih (m + 1) (by omega)
      rw [hnx] at this
      rw [wX7_leftOfAll_4, nI_1 m, nI_1, show ∀ z, nI z + 0 = nI z from fun z => Int32.add_zero _]
      simp only [hle, ix_nI (show m < 2 ^ 31 by omega), e2, cw_z O, vp_in_nI (show m < 36 by omega) (show 36 < 2 ^ 31 by decide), false_implies, true_and, not_false_eq_true, true_implies]
      cases hl : lf g (m / 6) (m % 6) with
      | false =>
        rw [hl] at this
        exact ⟨fun _ => by simpa using this, fun h => absurd rfl h⟩
      | true =>
        rw [hl] at this
        exact ⟨fun h => (by cases h), fun _ => by simpa using this⟩
  exact ⟨37, L 36 0 rfl⟩
/-- the most choices with one reading -/
def mst (g : Nat → Int32) (e : Nat) : Nat → Nat
  | 0 => 0
  | n + 1 => max (mst g e n) (cw g e n)
theorem mst_le (O : okS N g) (e n : Nat) : mst g e n ≤ 46656 := by
  induction n with
  | zero => exact Nat.zero_le _
  | succ n ih =>
    unfold mst
    have := cw_le O e n
    omega
theorem c_most {e : Nat} (O : okS N g) (S : SC so g s) (he : e < 6) (k : Q (nI (mst g e 6)) s) : wpX7_mostWithOneReading so (nI e) s Q := by
  have L : ∀ n i, i + n = 6 → wX7_mostWithOneReading_16 so (nI e) Q (n + 1) (nI (mst g e i)) (nI i) s := by
    intro n
    induction n with
    | zero =>
      intro i hi
      have : i = 6 := by omega
      subst this
      rw [wX7_mostWithOneReading_16]
      exact ⟨fun _ => k, fun h => absurd (by decide) h⟩
    | succ n ih =>
      intro i hi
      have hi6 : i < 6 := by omega
      have e1 : nI e * 6 + nI i = nI (6 * e + i) := by
        simp only [lit_i, nI_i, iI_add, iI_mul]
        congr 1
        simp
        omega
      have e2 : gi s (so + 49) (6 * e + i) = nI (cw g e i) := S.2.2.2 e i he hi6
      have e3 : jmax (nI (mst g e i)) (nI (cw g e i)) = nI (mst g e (i + 1)) := by
        have := mst_le O e i
        have := cw_le O e i
        rw [nI_i, nI_i, iI_max (by omega) (by omega) (by omega) (by omega), nI_i]
        congr 1
        show max (mst g e i : Int) (cw g e i : Int) = ((max (mst g e i) (cw g e i) : Nat) : Int)
        omega
      rw [wX7_mostWithOneReading_16, nI_1]
      simp only [ge6 hi6, e1, ix_nI (show 6 * e + i < 2 ^ 31 by omega), e2, e3, vp_in_nI (show 6 * e + i < 36 by omega) (show 36 < 2 ^ 31 by decide), false_implies, true_and, not_false_eq_true, true_implies]
      exact ih (i + 1) (by omega)
  unfold wpX7_mostWithOneReading
  simp only [ltz (show e < 2 ^ 31 by omega), lt6 he, false_implies, true_and, not_false_eq_true, true_implies, not_true_eq_false, and_true]
  exact ⟨7, L 6 0 rfl⟩
theorem c_best {e : Nat} (S : SC so g s) (he : e < 6) : wpX7_bestReading so (nI e) s Q = Q ((bst g).2 e) s := by
  unfold wpX7_bestReading
  have e2 : gi s (so + 48) e = (bst g).2 e := S.2.2.1 e he
  simp only [ltz (show e < 2 ^ 31 by omega), ge6 he, ix_nI (show e < 2 ^ 31 by omega), e2, vp_in_nI he (show 6 < 2 ^ 31 by decide), false_implies, true_and, not_false_eq_true, true_implies]
/-- the reference -/
theorem m_isLeft {e i : Nat} (O : okS N g) (S : SM g s) (he : e < 6) (hi : i < 6) : wpX12_isLeft (nI e) (nI i) s Q = Q (bi (lf g e i)) s := by
  unfold wpX12_isLeft
  have e1 : 6 * nI e + nI i = nI (6 * e + i) := by
    simp only [lit_i, nI_i, iI_add, iI_mul]
    congr 1
  have e2 : gi s 183 (6 * e + i) = nI (cw g e i) := S.2.2.1 e i he hi
  simp only [e1, ix_nI (show 6 * e + i < 2 ^ 31 by omega), e2, cw_z O, vp_in_nI (show 6 * e + i < 36 by omega) (show 36 < 2 ^ 31 by decide), true_and]
  cases lf g e i <;> simp [bi]
theorem m_leftMany {e : Nat} (O : okS N g) (S : SM g s) (he : e < 6) (k : Q (nI (cnt 6 (lf g e))) s) : wpX12_leftMany (nI e) s Q := by
  have L : ∀ n i, i + n = 6 → wX12_leftMany_4 (nI e) Q (n + 1) (nI (cnt i (lf g e))) (nI i) s := by
    intro n
    induction n with
    | zero =>
      intro i hi
      have : i = 6 := by omega
      subst this
      rw [wX12_leftMany_4]
      exact ⟨fun _ => k, fun h => absurd (by decide) h⟩
    | succ n ih =>
      intro i hi
      have hi6 : i < 6 := by omega
      have := ih (i + 1) (by omega)
      rw [cnt_s] at this
      rw [wX12_leftMany_4, m_isLeft O S he hi6, nI_1 i, nI_1, show ∀ z, nI z + 0 = nI z from fun z => Int32.add_zero _]
      simp only [ge6 hi6, bi_0, false_implies, true_and, not_false_eq_true, true_implies]
      cases hl : lf g e i with
      | false =>
        rw [hl] at this
        exact ⟨fun _ => by simpa using this, fun h => absurd rfl h⟩
      | true =>
        rw [hl] at this
        exact ⟨fun h => (by cases h), fun _ => by simpa using this⟩
  exact ⟨7, L 6 0 rfl⟩
theorem m_leftAll (O : okS N g) (S : SM g s) (k : Q (nI (lal g 6)) s) : wpX12_leftAll s Q := by
  have L : ∀ n e, e + n = 6 → wX12_leftAll_4 Q (n + 1) (nI (lal g e)) (nI e) s := by
    intro n
    induction n with
    | zero =>
      intro e he
      have : e = 6 := by omega
      subst this
      rw [wX12_leftAll_4]
      exact ⟨fun _ => k, fun h => absurd (by decide) h⟩
    | succ n ih =>
      intro e he
      have he6 : e < 6 := by omega
      rw [wX12_leftAll_4]
      refine ⟨fun h => absurd h (by rw [ge6 he6]; exact id), fun _ => m_leftMany O S he6 ?_⟩
      rw [nI_1, nI_add]
      exact ih (e + 1) (by omega)
  exact ⟨7, L 6 0 rfl⟩
end LEFT
