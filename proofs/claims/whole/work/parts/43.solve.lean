/-! the class's solver: orders, and the whole -/
section HEED
variable {a so N : Nat} {s : gS} {g : Nat → Int32} {Q : gS → Prop}
theorem c_hasBit {Q : Int32 → gS → Prop} {p : Nat → Bool} {i : Nat} (hi : i < 6) : wpX11_hasBit (nI (bts 6 p)) (nI i) s Q = Q (bi (p i)) s := by
  unfold wpX11_hasBit
  rw [sh6b hi]
  simp only [bi_1]
  cases p i <;> simp [bi]
def pt (g : Nat → Int32) (o : Nat) (A : Nat → Bool) (B : Nat → Nat → Bool) (e i e' k : Nat) : Bool := if ox g o = e ∧ oy g o = e' then (if A i then hh g o i k else true) else if ox g o = e' ∧ oy g o = e then (if B k i then hh g o k i else true) else true
def IV (so : Nat) (g : Nat → Int32) (o : Nat) (A : Nat → Bool) (B : Nat → Nat → Bool) (s : gS) : Prop := ∀ e i e', e < 6 → i < 6 → e' < 6 → ∃ p, s.1 (so + 3 + 1 + (6 * e + i)) e' = nI (bts 6 p) ∧ (tl g e = true → tl g e' = true → e ≠ e' → i < mn g e → ∀ k, k < mn g e' → p k = (cmpO g o e i e' k && pt g o A B e i e' k))
def fb (so : Nat) (s s' : gS) : Prop := (∀ a, ¬ (so + 3 + 1 ≤ a ∧ a < so + 3 + 1 + 36) → s'.1 a = s.1 a) ∧ s'.2 = s.2
theorem fb.rf {s : gS} : fb so s s := ⟨fun _ _ => rfl, rfl⟩
theorem fb.tr {s s1 s2 : gS} (h : fb so s s1) (h2 : fb so s1 s2) : fb so s s2 := ⟨fun a d => (h2.1 a d).trans (h.1 a d), h2.2.trans h.2⟩
theorem fb_wi {s : gS} {p i : Nat} {v : Int32} (h1 : p < 36) : fb so s (wi s (so + 3 + 1 + p) i v) := ⟨fun b hb => wi_na _ _ _ _ (by omega), rfl⟩
theorem IV_cg {o : Nat} {A A' : Nat → Bool} {B B' : Nat → Nat → Bool} (O : okS N g) (hA : ∀ i, i < 6 → A i = A' i) (hB : ∀ k i, k < 6 → i < 6 → B k i = B' k i) (h : IV so g o A B s) : IV so g o A' B' s := by
  intro e i e' he hi he'
  obtain ⟨p, h1, h2⟩ := h e i e' he hi he'
  refine ⟨p, h1, fun t1 t2 ne im k hk => ?_⟩
  rw [h2 t1 t2 ne im k hk]
  have hm := (O.2.2.2.1 e' he').2
  unfold pt
  rw [hA i hi, hB k i (by omega) hi]
theorem c_heed58 {o i0 : Nat} {k26 : Int32 → Int32 → Int32 → gS → Prop} {x2 : Int32} {bp : Nat → Bool} (O : okS N g) (ho : o < no g) (hi0 : i0 < 6) (hbp : i0 < mn g (ox g o) → ∀ k, k < mn g (oy g o) → bp k = hh g o i0 k) : ∀ n k, k + n = 6 → ∀ s : gS, IV so g o (fun i => decide (i < i0 + 1)) (fun k' i => decide (k' < i0) || (decide (k' = i0) && decide (i < k))) s → (∀ s', fb so s s' → IV so g o (fun i => decide (i < i0 + 1)) (fun k' i => decide (k' < i0) || (decide (k' = i0) && decide (i < 6))) s' → k26 (nI (ox g o)) (nI (oy g o)) (nI (i0 + 1)) s') → wX7_heed_65 so a x2 Q k26 (n + 1) (nI (ox g o)) (nI (oy g o)) (nI i0) (nI (bts 6 bp)) (nI k) s := by
  obtain ⟨-, -, -, h1, h2, h3, hne⟩ := O.2.2.1 o ho
  have hmx := (O.2.2.2.1 _ h2).2
  have hmy := (O.2.2.2.1 _ h3).2
  intro n
  induction n with
  | zero =>
    intro k hk s I K
    have : k = 6 := by omega
    subst this
    rw [wX7_heed_65, nI_1 i0]
    exact ⟨fun _ => K s fb.rf I, fun h => absurd (by decide) h⟩
  | succ n ih =>
    intro k hk s I K
    have hk6 : k < 6 := by omega
    have e1 : nI (oy g o) * 6 + nI k = nI (6 * oy g o + k) := by
      simp only [lit_i, nI_i, iI_add, iI_mul]
      congr 1
      simp
      omega
    rw [wX7_heed_65, c_hasBit hk6, nI_1 k]
    simp only [ge6 hk6, bi_0, false_implies, true_and, not_false_eq_true, true_implies, e1, ix_nI (show 6 * oy g o + k < 2 ^ 31 by omega), ix_nI (show ox g o < 2 ^ 31 by omega), vp_in_nI (show 6 * oy g o + k < 36 by omega) (show 36 < 2 ^ 31 by decide), vp_in_nI h2 (show 6 < 2 ^ 31 by decide)]
    cases hb : bp k with
    | true =>
      refine ⟨fun _ => ih (k + 1) (by omega) s (fun e i e' he hi he' => ?_) K, fun h => by cases h⟩
      obtain ⟨p, q1, q2⟩ := I e i e' he hi he'
      refine ⟨p, q1, fun t1 t2 ne im k' hk' => ?_⟩
      rw [q2 t1 t2 ne im k' hk']
      congr 1
      unfold pt
      by_cases c1 : ox g o = e ∧ oy g o = e'
      · rw [if_pos c1, if_pos c1]
      · rw [if_neg c1, if_neg c1]
        by_cases c2 : ox g o = e' ∧ oy g o = e
        · rw [if_pos c2, if_pos c2]
          by_cases c3 : k' = i0 ∧ i = k
          · have hv : hh g o k' i = true := by
              rw [c3.1, c3.2, ← hbp (by rw [c2.1]; omega) k (by rw [c2.2]; omega), hb]
            rw [hv]
            simp
          · have : (decide (k' < i0) || (decide (k' = i0) && decide (i < k + 1))) = (decide (k' < i0) || (decide (k' = i0) && decide (i < k))) := by
              by_cases c4 : k' = i0
              · have c5 : i ≠ k := fun h => c3 ⟨c4, h⟩
                have : (i < k + 1) = (i < k) := by simp; omega
                simp [this]
              · simp [c4]
            simp only [this]
        · rw [if_neg c2, if_neg c2]
    | false =>
      refine ⟨fun h => absurd rfl h, fun _ => ?_⟩
      obtain ⟨p0, r1, r2⟩ := I (oy g o) k (ox g o) h3 hk6 h2
      rw [show gi s (so + 3 + 1 + (6 * oy g o + k)) (ox g o) = nI (bts 6 p0) from r1, bnot6 hi0]
      refine ih (k + 1) (by omega) _ (fun e i e' he hi he' => ?_) (fun s' f => K s' (fb.tr (fb_wi (by omega)) f))
      by_cases hcell : e = oy g o ∧ i = k ∧ e' = ox g o
      · obtain ⟨rfl, rfl, rfl⟩ := hcell
        refine ⟨_, wi_at _ _ _ _, fun t1 t2 ne im k' hk' => ?_⟩
        show (p0 k' && !(k' == i0)) = _
        rw [r2 t1 t2 ne im k' hk']
        have c1 : ¬ (ox g o = oy g o ∧ oy g o = ox g o) := fun h => hne h.1
        unfold pt
        rw [if_neg c1, if_neg c1, if_pos (show ox g o = ox g o ∧ oy g o = oy g o from ⟨rfl, rfl⟩), if_pos (show ox g o = ox g o ∧ oy g o = oy g o from ⟨rfl, rfl⟩)]
        by_cases c4 : k' = i0
        · subst c4
          have hv : hh g o k' i = false := by rw [← hbp hk' i im, hb]
          simp [hv]
        · simp [c4]
      · obtain ⟨p, q1, q2⟩ := I e i e' he hi he'
        refine ⟨p, ?_, fun t1 t2 ne im k' hk' => ?_⟩
        · by_cases hrow : e = oy g o ∧ i = k
          · rw [hrow.1, hrow.2] at q1 ⊢
            rw [wi_ne _ _ _ _ (fun h => hcell ⟨hrow.1, hrow.2, h⟩)]
            exact q1
          · rw [wi_na _ _ _ _ (by omega)]
            exact q1
        · rw [q2 t1 t2 ne im k' hk']
          congr 1
          unfold pt
          by_cases c1 : ox g o = e ∧ oy g o = e'
          · rw [if_pos c1, if_pos c1]
          · rw [if_neg c1, if_neg c1]
            by_cases c2 : ox g o = e' ∧ oy g o = e
            · have c5 : i ≠ k := fun h => hcell ⟨c2.2.symm, h, c2.1.symm⟩
              have : (i < k + 1) = (i < k) := by simp; omega
              rw [if_pos c2, if_pos c2]
              simp [this]
            · rw [if_neg c2, if_neg c2]
theorem c_heed {o : Nat} (hso : a + 1 < so) (O : okS N g) (R : repC (s.1 (a + 1)) g) (ho : o < no g) (I : ∀ e i e', e < 6 → i < 6 → e' < 6 → ∃ p, s.1 (so + 3 + 1 + (6 * e + i)) e' = nI (bts 6 p) ∧ (tl g e = true → tl g e' = true → e ≠ e' → i < mn g e → ∀ k, k < mn g e' → p k = cmpO g o e i e' k)) (K : ∀ s', fb so s s' → (∀ e i e', e < 6 → i < 6 → e' < 6 → ∃ p, s'.1 (so + 3 + 1 + (6 * e + i)) e' = nI (bts 6 p) ∧ (tl g e = true → tl g e' = true → e ≠ e' → i < mn g e → ∀ k, k < mn g e' → p k = cmpO g (o + 1) e i e' k)) → Q s') : wpX7_heed so a (nI (cd g o)) s Q := by
  obtain ⟨-, -, -, h1, h2, h3, hne⟩ := O.2.2.1 o ho
  obtain ⟨e1, e2, e3⟩ := cd_y h1 h2 h3
  have hmx := (O.2.2.2.1 _ h2).2
  have hmy := (O.2.2.2.1 _ h3).2
  unfold wpX7_heed
  rw [c_both O R ho]
  cases hb : (tl g (ox g o) && tl g (oy g o)) with
  | false =>
    refine ⟨fun h => absurd rfl h, fun _ => K s fb.rf (fun e i e' he hi he' => ?_)⟩
    obtain ⟨p, q1, q2⟩ := I e i e' he hi he'
    refine ⟨p, q1, fun t1 t2 ne im k hk => ?_⟩
    rw [q2 t1 t2 ne im k hk, cmpO]
    have : okp g o e i e' k = true := by
      unfold okp
      rw [if_neg (fun c => by rw [c.1, c.2, t1, t2] at hb; cases hb), if_neg (fun c => by rw [c.1, c.2, t1, t2] at hb; cases hb)]
    simp [this]
  | true =>
    refine ⟨fun _ => ⟨7, ?_⟩, fun h => by cases h⟩
    rw [show cd g o = 100 * kd g o + 10 * ox g o + oy g o from rfl, e1, e2]
    have L : ∀ n i0, i0 + n = 6 → ∀ s1 : gS, fb so s s1 → IV so g o (fun i => decide (i < i0)) (fun k i => decide (k < i0)) s1 → wX7_heed_26 so a (nI (100 * kd g o + 10 * ox g o + oy g o)) Q (n + 1) (nI (ox g o)) (nI (oy g o)) (nI i0) s1 := by
      intro n
      induction n with
      | zero =>
        intro i0 hi s1 f1 I1
        have : i0 = 6 := by omega
        subst this
        rw [wX7_heed_26]
        refine ⟨fun _ => K s1 f1 (fun e i e' he hi he' => ?_), fun h => absurd (by decide) h⟩
        obtain ⟨p, q1, q2⟩ := I1 e i e' he hi he'
        refine ⟨p, q1, fun t1 t2 ne im k hk => ?_⟩
        rw [q2 t1 t2 ne im k hk, cmpO]
        congr 1
        have hm := (O.2.2.2.1 e' he').2
        have hm2 := (O.2.2.2.1 e he).2
        unfold pt okp hh
        by_cases c1 : ox g o = e ∧ oy g o = e'
        · obtain ⟨rfl, rfl⟩ := c1
          rw [if_pos (show ox g o = ox g o ∧ oy g o = oy g o from ⟨rfl, rfl⟩), if_pos (show ox g o = ox g o ∧ oy g o = oy g o from ⟨rfl, rfl⟩)]
          simp [hi]
        · rw [if_neg c1, if_neg c1]
          by_cases c2 : ox g o = e' ∧ oy g o = e
          · obtain ⟨rfl, rfl⟩ := c2
            rw [if_pos (show ox g o = ox g o ∧ oy g o = oy g o from ⟨rfl, rfl⟩), if_pos (show ox g o = ox g o ∧ oy g o = oy g o from ⟨rfl, rfl⟩)]
            simp [show k < 6 by omega]
          · rw [if_neg c2, if_neg c2]
      | succ n ih =>
        intro i0 hi s1 f1 I1
        have hi6 : i0 < 6 := by omega
        have R1 : repC (s1.1 (a + 1)) g := by rw [f1.1 _ (by omega)]; exact R
        have e4 : nI (ox g o) * 6 + nI i0 = nI (6 * ox g o + i0) := by
          simp only [lit_i, nI_i, iI_add, iI_mul]
          congr 1
          simp
          omega
        rw [wX7_heed_26]
        refine ⟨fun h => absurd h (by rw [ge6 hi6]; exact id), fun _ => ?_⟩
        refine c_bth O R1 ho hi6 (fun bp hbp => ?_)
        simp only [e4, ix_nI (show 6 * ox g o + i0 < 2 ^ 31 by omega), ix_nI (show oy g o < 2 ^ 31 by omega), vp_in_nI (show 6 * ox g o + i0 < 36 by omega) (show 36 < 2 ^ 31 by decide), vp_in_nI h3 (show 6 < 2 ^ 31 by decide), true_and]
        obtain ⟨p0, r1, r2⟩ := I1 (ox g o) i0 (oy g o) h2 hi6 h3
        rw [show gi s1 (so + 3 + 1 + (6 * ox g o + i0)) (oy g o) = nI (bts 6 p0) from r1, band6]
        refine ⟨7, c_heed58 O ho hi6 hbp 6 0 rfl _ (fun e i e' he hi he' => ?_) (fun s' f2 I2 => ih (i0 + 1) (by omega) s' (fb.tr f1 (fb.tr (fb_wi (by omega)) f2)) (IV_cg O (fun i _ => rfl) (fun k i h1 h2 => ?_) I2))⟩
        · by_cases hcell : e = ox g o ∧ i = i0 ∧ e' = oy g o
          · obtain ⟨rfl, rfl, rfl⟩ := hcell
            refine ⟨_, wi_at _ _ _ _, fun t1 t2 ne im k' hk' => ?_⟩
            show (p0 k' && bp k') = _
            rw [r2 t1 t2 ne im k' hk', hbp im k' hk']
            unfold pt
            rw [if_pos (show ox g o = ox g o ∧ oy g o = oy g o from ⟨rfl, rfl⟩), if_pos (show ox g o = ox g o ∧ oy g o = oy g o from ⟨rfl, rfl⟩)]
            simp
          · obtain ⟨p, q1, q2⟩ := I1 e i e' he hi he'
            refine ⟨p, ?_, fun t1 t2 ne im k' hk' => ?_⟩
            · by_cases hrow : e = ox g o ∧ i = i0
              · rw [hrow.1, hrow.2] at q1 ⊢
                rw [wi_ne _ _ _ _ (fun h => hcell ⟨hrow.1, hrow.2, h⟩)]
                exact q1
              · rw [wi_na _ _ _ _ (by omega)]
                exact q1
            · rw [q2 t1 t2 ne im k' hk']
              congr 1
              unfold pt
              by_cases c1 : ox g o = e ∧ oy g o = e'
              · have c5 : i ≠ i0 := fun h => hcell ⟨c1.1.symm, h, c1.2.symm⟩
                have : (i < i0 + 1) = (i < i0) := by simp; omega
                rw [if_pos c1, if_pos c1]
                simp [this]
              · rw [if_neg c1, if_neg c1]
                by_cases c2 : ox g o = e' ∧ oy g o = e
                · rw [if_pos c2, if_pos c2]
                  simp
                · rw [if_neg c2, if_neg c2]
        · by_cases c4 : k < i0
          · simp [c4]; omega
          · by_cases c5 : k = i0
            · simp [c5, h2]
            · simp [c4, c5]; omega
    refine L 6 0 rfl s fb.rf (fun e i e' he hi he' => ?_)
    obtain ⟨p, q1, q2⟩ := I e i e' he hi he'
    refine ⟨p, q1, fun t1 t2 ne im k hk => ?_⟩
    rw [q2 t1 t2 ne im k hk]
    unfold pt
    simp
/-- what solve leaves -/
def SC (so : Nat) (g : Nat → Int32) (s : gS) : Prop := s.1 so 8 = nI (chs g).length ∧ s.1 so 9 = iI (bst g).1 ∧ (∀ e, e < 6 → s.1 (so + 48) e = (bst g).2 e) ∧ (∀ e i, e < 6 → i < 6 → s.1 (so + 49) (6 * e + i) = nI (cw g e i))
theorem c_solve (hso : a + 1 < so) (hN : N ≤ 11) (O : okS N g) (R : repC (s.1 (a + 1)) g) (K : ∀ s', fo so s s' → SC so g s' → Q s') : wpX7_solve so a s Q := by
  have hno := O.2.1.2
  -- orders one behind another, then the search
  have L2 : ∀ n o, o + n = no g → ∀ s1 : gS, fo so s s1 → s1.1 so 1 = nI (el g 6).length → (∀ d, d < (el g 6).length → s1.1 (so + 1) d = nI ((el g 6).getD d 0)) → s1.1 so 9 = 0 → (∀ e, e < 6 → (∀ i, i < mn g e → s1.1 (so + 2) (6 * e + i) = iI (vl g e i 3)) ∧ (∀ i, i < 6 → s1.1 (so + 49) (6 * e + i) = 0) ∧ s1.1 (so + 47) e = -1 ∧ s1.1 (so + 48) e = -1 ∧ s1.1 (so + 40 + 1 + 0) e = nI (bts 6 (inn g e))) → (∀ e i e', e < 6 → i < 6 → e' < 6 → ∃ p, s1.1 (so + 3 + 1 + (6 * e + i)) e' = nI (bts 6 p) ∧ (tl g e = true → tl g e' = true → e ≠ e' → i < mn g e → ∀ k, k < mn g e' → p k = cmpO g o e i e' k)) → wX7_solve_60 so a Q (n + 1) (nI o) s1 := by
    intro n
    induction n with
    | zero =>
      intro o hon s1 f1 E1 E2 W0 L I
      have : o = no g := by omega
      subst this
      have R1 : repC (s1.1 (a + 1)) g := by rw [f1.1 _ (by omega)]; exact R
      rw [wX7_solve_60, c_orders O R1]
      refine ⟨fun _ => ?_, fun h => absurd (nI_le (Nat.le_refl _) (by omega)) h⟩
      have T : ST so g s1 := ⟨E1, E2, fun e i he hi => (L e he).1 i hi, fun e i e' he he' hne hi => by
        have he6 := el6 he
        have hm := (O.2.2.2.1 e he6).2
        obtain ⟨p, q1, q2⟩ := I e i e' he6 (by omega) (el6 he')
        exact ⟨p, q1, fun k hk => q2 (el_mem.mp he).2 (el_mem.mp he').2 hne hi k hk⟩⟩
      cases ha : any g with
      | false =>
        obtain ⟨c1, c2⟩ := chs_nil ha
        show wpX7_search (7 + 1) so 0 0 s1 _
        rw [wpX7_search]
        unfold wfX7_search
        rw [show gi s1 so 1 = 0 from by rw [c2] at E1; exact E1]
        refine ⟨fun h => absurd h (by decide), fun _ => ⟨fun _ => ?_, fun h => absurd (by decide) h⟩⟩
        refine K _ (f1.tr (fo_wi (by omega) (by omega))) ⟨?_, ?_, fun e he => ?_, fun e i he hi => ?_⟩
        · rw [wi_at, c1]; rfl
        · rw [wi_ne _ _ _ _ (by decide), W0]
          unfold bst; rw [c1]; rfl
        · rw [wi_na _ _ _ _ (by omega), (L e he).2.2.2.1]
          unfold bst; rw [c1]; rfl
        · rw [wi_na _ _ _ _ (by omega), (L e he).2.1 i hi]
          unfold cw; rw [c1]; rfl
      | true =>
        obtain ⟨x, hx, htx⟩ := any_iff.mp ha
        have hne : el g 6 ≠ [] := fun h => by
          have := el_mem.mpr ⟨hx, htx⟩
          rw [h] at this
          cases this
        cases hL : el g 6 with
        | nil => exact absurd hL hne
        | cons e r =>
          have hx := chs_ext O ha
          rw [hL] at hx
          have hlen := el_len g 6
          rw [hL, List.length_cons] at hlen
          have hb : ∀ q, q ∈ extF g (e :: r) (inn g) (fun _ => -1) → 0 ≤ wth g q 6 ∧ wth g q 6 ≤ 18 := fun q hq => by
            rw [← hx] at hq
            have := wth_1 O (List.mem_filter.mp hq).1
            omega
          have := c_search (so := so) O r e [] (8 - (r.length + 1)) (by rw [hL]; rfl) (inn g) (fun _ => -1) s1 0 (0, fun _ => -1) (fun r5 s5 => Q (wi s5 so 8 r5)) T (fun e' he' => (L e' (el6 (by rw [hL]; exact he'))).2.2.2.2) (fun e' he' k hk => inn_lt hk) (fun k hk _ => (L k hk).2.2.1) (fun q _ => by rw [wth_wl, hL]; omega) hb ⟨W0, fun k hk => (L k hk).2.2.2.1, by decide, by decide⟩ (fun s' f2 C2 B2 _ => ?_)
          · rw [show r.length + 1 + (8 - (r.length + 1)) = 8 by omega] at this
            exact this
          · rw [← hx] at C2 B2 ⊢
            refine K _ ((f1.tr (fo_fS f2)).tr (fo_wi (by omega) (by omega))) ⟨?_, ?_, fun k hk => ?_, fun k i hk hi => ?_⟩
            · rw [wi_at]
            · rw [wi_ne _ _ _ _ (by decide)]; exact B2.1
            · rw [wi_na _ _ _ _ (by omega)]; exact B2.2.1 k hk
            · rw [wi_na _ _ _ _ (by omega), C2 k i hk hi, (L k hk).2.1 i hi]
              have : (if k ∈ e :: r then (chs g).countP (fun q => q k == nI i) else 0) = cw g k i := by
                rw [← hL]
                unfold cw
                by_cases hk2 : tl g k = true
                · rw [if_pos (el_mem.mpr ⟨hk, hk2⟩)]
                  simp [hk2]
                · rw [if_neg (fun h => hk2 (el_mem.mp h).2)]
                  have : tl g k = false := by simpa using hk2
                  simp [this]
              rw [this]
              exact Int32.zero_add _
    | succ n ih =>
      intro o hon s1 f1 E1 E2 W0 L I
      have R1 : repC (s1.1 (a + 1)) g := by rw [f1.1 _ (by omega)]; exact R
      rw [wX7_solve_60, c_orders O R1]
      refine ⟨fun h => absurd h (by rw [nI_leI (by omega) (by omega)]; omega), fun _ => ?_⟩
      rw [c_code hN O R1 (by omega), nI_1]
      refine c_heed hso O R1 (by omega) I (fun s2 f2 I2 => ih (o + 1) (by omega) s2 (f1.tr ⟨fun b hb => f2.1 b (by omega), f2.2⟩) ?_ (fun d hd => ?_) ?_ (fun e he => ?_) I2)
      · rw [f2.1 _ (by omega)]; exact E1
      · rw [f2.1 _ (by omega)]; exact E2 d hd
      · rw [f2.1 _ (by omega)]; exact W0
      · rw [f2.1 (so + 2) (by omega), f2.1 (so + 49) (by omega), f2.1 (so + 47) (by omega), f2.1 (so + 48) (by omega), f2.1 (so + 40 + 1 + 0) (by omega)]
        exact L e he
  have L1 : ∀ n e0, e0 + n = 6 → ∀ s1 : gS, fo so s s1 → s1.1 so 1 = nI (el g e0).length → (∀ d, d < (el g e0).length → s1.1 (so + 1) d = nI ((el g e0).getD d 0)) → s1.1 so 9 = 0 → (∀ e, e < e0 → (∀ j, j < 6 → dn so g e j s1) ∧ s1.1 (so + 47) e = -1 ∧ s1.1 (so + 48) e = -1 ∧ s1.1 (so + 40 + 1 + 0) e = nI (bts 6 (inn g e))) → wX7_solve_12 so a Q (n + 1) (nI e0) s1 := by
    intro n
    induction n with
    | zero =>
      intro e0 he0 s1 f1 E1 E2 W0 L
      have : e0 = 6 := by omega
      subst this
      rw [wX7_solve_12]
      refine ⟨fun _ => ⟨no g + 1, L2 (no g) 0 (by omega) s1 f1 E1 E2 W0 (fun e he => ?_) (fun e i e' he hi he' => ?_)⟩, fun h => absurd (by decide) h⟩
      · obtain ⟨d1, d2, d3, d4⟩ := L e he
        have hm := (O.2.2.2.1 e he).2
        exact ⟨fun i hi => (d1 i (by omega)).1 hi, fun i hi => (d1 i hi).2.1, d2, d3, d4⟩
      · refine ⟨fun _ => true, ?_, fun _ _ _ _ k _ => rfl⟩
        rw [((L e he).1 i hi).2.2 e' he']
        exact b63_6
    | succ n ih =>
      intro e0 he0 s1 f1 E1 E2 W0 L
      have he6 : e0 < 6 := by omega
      have R1 : repC (s1.1 (a + 1)) g := by rw [f1.1 _ (by omega)]; exact R
      have hlen := el_len g e0
      rw [wX7_solve_12]
      refine ⟨fun h => absurd h (by rw [ge6 he6]; exact id), fun _ => ?_⟩
      refine c_layOut hso he6 R1 (fun s2 k1 k2 k3 k4 k5 k6 k7 k8 => ?_)
      have f2 : fo so s s2 := f1.tr ⟨fun b hb => k1 b (by omega) (by omega) (by omega) (by omega) (by omega) (by omega), k4⟩
      have R2 : repC (s2.1 (a + 1)) g := by rw [f2.1 _ (by omega)]; exact R
      have so0 : s2.1 so = s1.1 so := k1 so (by omega) (by omega) (by omega) (by omega) (by omega) (by omega)
      have so1 : s2.1 (so + 1) = s1.1 (so + 1) := k1 (so + 1) (by omega) (by omega) (by omega) (by omega) (by omega) (by omega)
      have LL : ∀ e, e < e0 + 1 → (∀ j, j < 6 → dn so g e j s2) ∧ s2.1 (so + 47) e = -1 ∧ s2.1 (so + 48) e = -1 ∧ s2.1 (so + 40 + 1 + 0) e = nI (bts 6 (inn g e)) := by
        intro e he
        by_cases hee : e = e0
        · subst hee; exact ⟨k5, k6, k7, k8⟩
        · obtain ⟨d1, d2, d3, d4⟩ := L e (by omega)
          refine ⟨fun j hj => ⟨fun hm => ?_, ?_, fun k hk => ?_⟩, ?_, ?_, ?_⟩
          · rw [(k2 _ (by omega)).1]; exact (d1 j hj).1 hm
          · rw [(k2 _ (by omega)).2]; exact (d1 j hj).2.1
          · rw [k1 _ (by omega) (by omega) (by omega) (by omega) (by omega) (by omega)]; exact (d1 j hj).2.2 k hk
          · rw [(k3 e hee).1]; exact d2
          · rw [(k3 e hee).2.1]; exact d3
          · rw [(k3 e hee).2.2]; exact d4
      rw [c_isTold R2 he6, nI_1]
      cases ht : tl g e0 with
      | false =>
        have hel : el g (e0 + 1) = el g e0 := by rw [el_s, ht]; rfl
        refine ⟨fun _ => ih (e0 + 1) (by omega) s2 f2 ?_ (fun d hd => ?_) ?_ LL, fun h => absurd rfl h⟩
        · rw [so0, hel]; exact E1
        · rw [hel] at hd ⊢; rw [so1]; exact E2 d hd
        · rw [so0]; exact W0
      | true =>
        have hel : el g (e0 + 1) = el g e0 ++ [e0] := by rw [el_s, ht]; rfl
        refine ⟨fun h => absurd h (by decide), fun _ => ?_⟩
        have g1 : gi s2 so 1 = nI (el g e0).length := by
          show s2.1 so 1 = _
          rw [so0]; exact E1
        have g2 : gi (wi s2 (so + 1) (el g e0).length (nI e0)) so 1 = nI (el g e0).length := by
          show (wi s2 (so + 1) (el g e0).length (nI e0)).1 so 1 = _
          rw [wi_na _ _ _ _ (by omega)]; exact g1
        rw [g1, ix_nI (by omega), g2, nI_1]
        refine ⟨vp_in_nI (by omega) (by decide), ih (e0 + 1) (by omega) _ (f2.tr (fo.tr (fo_wi (by omega) (by omega)) (fo_wi (by omega) (by omega)))) ?_ (fun d hd => ?_) ?_ (fun e he => ?_)⟩
        · rw [wi_at, hel]; simp
        · rw [hel] at hd ⊢
          rw [wi_na _ _ _ _ (by omega)]
          by_cases hd2 : d = (el g e0).length
          · subst hd2
            rw [wi_at]
            simp
          · have hd3 : d < (el g e0).length := by simp at hd; omega
            rw [wi_ne _ _ _ _ hd2, so1, E2 d hd3]
            congr 1
            rw [List.getD_eq_getElem?_getD, List.getD_eq_getElem?_getD, List.getElem?_append_left hd3]
        · rw [wi_ne _ _ _ _ (by decide), wi_na _ _ _ _ (by omega), so0]; exact W0
        · obtain ⟨d1, d2, d3, d4⟩ := LL e he
          refine ⟨fun j hj => ⟨fun hm => ?_, ?_, fun k hk => ?_⟩, ?_, ?_, ?_⟩
          · rw [wi_na _ _ _ _ (by omega), wi_na _ _ _ _ (by omega)]; exact (d1 j hj).1 hm
          · rw [wi_na _ _ _ _ (by omega), wi_na _ _ _ _ (by omega)]; exact (d1 j hj).2.1
          · rw [wi_na _ _ _ _ (by omega), wi_na _ _ _ _ (by omega)]; exact (d1 j hj).2.2 k hk
          · rw [wi_na _ _ _ _ (by omega), wi_na _ _ _ _ (by omega)]; exact d2
          · rw [wi_na _ _ _ _ (by omega), wi_na _ _ _ _ (by omega)]; exact d3
          · rw [wi_na _ _ _ _ (by omega), wi_na _ _ _ _ (by omega)]; exact d4
  refine ⟨7, L1 6 0 rfl _ (fo.tr (fo_wi (by omega) (by omega)) (fo_wi (by omega) (by omega))) ?_ (fun d hd => by cases hd) (wi_at _ _ _ _) (fun e he => by omega)⟩
  rw [wi_ne _ _ _ _ (by decide), wi_at]
  rfl
end HEED
