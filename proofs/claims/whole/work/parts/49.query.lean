/-! asks, on, busiest -/
section QUERY
variable {t : List Nat} {L : List Int32} {g : Sy} {us : List Sy} {ks : Nat → Option Sy} {s : gS} {Q : Int32 → gS → Prop} {K : gS → Prop}
def ask (g : Sy) : Nat → Option (Nat × Nat)
  | 0 => none
  | n + 1 => if opq g n then (match ask g n with
    | none => some (n, mst g n 6)
    | some (e, m) => if mst g n 6 < m then some (n, mst g n 6) else some (e, m)) else ask g n
theorem ask_bd (O : okS 10 g) : ∀ n e m, ask g n = some (e, m) → e < n ∧ m ≤ 46656 := by
  intro n
  induction n with
  | zero => intro e m h; cases h
  | succ n ih =>
    intro e m h
    have hm := mst_le O n 6
    unfold ask at h
    split at h
    · cases ha : ask g n with
      | none =>
        rw [ha] at h
        simp at h
        omega
      | some p =>
        obtain ⟨e1, m1⟩ := p
        have := ih e1 m1 ha
        rw [ha] at h
        simp only at h
        split at h
        · simp at h; omega
        · simp at h; omega
    · have := ih e m h
      omega
def askE (d : Int32) : Option (Nat × Nat) → Int32
  | none => d
  | some (e, _) => nI e
def askM : Option (Nat × Nat) → Nat
  | none => 0
  | some (_, m) => m
theorem S_asks (A : okA t L g us ks) (C : CI t L g us ks s) (M : MI t L g us ks s) (kk : KK t K) : wpX11_asks s (fun r s1 => wpX12_asks s1 (eqK K r)) := by
  have O := A.2.2.1.1
  have n2 : ∀ e, e < 6 → ¬ nI e = -2 := by decide +kernel
  have n1 : ∀ e, e < 6 → ¬ nI e = -1 := by decide +kernel
  refine S_q (L' := match ask g 6 with | none => L | some (_, m) => [nI m]) (r := askE (-2) (ask g 6)) (WC := wpX11_asks s) (WM := wpX12_asks) A C M (by split; exact A.2.1; simp) kk (fun Q k => ?_) (fun s1 M1 Q k => ?_)
  · refine c_solved O C.2.2.1 C.2.2.2.1 (fun s1 f1 g1 v1 S1 => ⟨7, ?_⟩)
    have Lp : ∀ n e, e + n = 6 → wX11_asks_13 Q (n + 1) (askE (-2) (ask g e)) (nI (askM (ask g e))) (nI e) s1 := by
      intro n
      induction n with
      | zero =>
        intro e he
        have : e = 6 := by omega
        subst this
        rw [wX11_asks_13]
        refine ⟨fun _ => ?_, fun h => absurd (by decide) h⟩
        cases ha : ask g 6 with
        | none =>
          rw [ha] at k
          exact ⟨fun _ => k s1 (f1.mono sD_q) g1 (sD_r f1 C.2.1) (CV1 v1 S1), fun h => absurd rfl h⟩
        | some p =>
          obtain ⟨e, m⟩ := p
          rw [ha] at k
          have hb := ask_bd O 6 e m ha
          refine ⟨fun h => absurd h (n2 e hb.1), fun _ => ?_⟩
          refine c_clear (fun s2 f2 R2 => c_add R2 (by decide) (fun s3 f3 R3 => ?_))
          have f5 := f2.tr f3
          exact k s3 ((f1.mono sD_q).tr (f5.mono rD_q)) (fun j hj => by rw [f5.1 0 rfl, g1 j hj]) R3 (CV1 (by rw [f5.1 0 rfl]; exact v1) (rD_s f5 S1))
      | succ n ih =>
        intro e he
        have he6 : e < 6 := by omega
        have := ih (e + 1) (by omega)
        have hm := mst_le O e 6
        rw [wX11_asks_13]
        refine ⟨fun h => absurd h (by rw [ge6 he6]; exact id), fun _ => ?_⟩
        refine c_open O S1 he6 ?_
        cases ho : opq g e with
        | false =>
          refine ⟨fun h => absurd rfl h, fun _ => ?_⟩
          rw [nI_1]
          rw [ask, ho] at this
          exact this
        | true =>
          refine ⟨fun _ => ?_, fun h => absurd h (by decide)⟩
          refine c_most O S1 he6 ?_
          rw [ask, ho] at this
          simp only [if_true] at this
          cases ha : ask g e with
          | none =>
            rw [ha] at this
            refine ⟨fun _ => ?_, fun h => absurd rfl h⟩
            unfold wX11_asks_52
            rw [nI_1]
            exact this
          | some p =>
            obtain ⟨e1, m1⟩ := p
            have hb := ask_bd O e e1 m1 ha
            rw [ha] at this
            simp only at this
            refine ⟨fun h => absurd h (n2 e1 (by omega)), fun _ => ?_⟩
            show (nI m1 ≤ nI (mst g e 6) → _) ∧ (¬ nI m1 ≤ nI (mst g e 6) → _)
            rw [nI_leI (by omega) (by omega)]
            unfold wX11_asks_52
            rw [nI_1]
            refine ⟨fun h => ?_, fun h => ?_⟩
            · rw [if_neg (by omega)] at this; exact this
            · rw [if_pos (by omega)] at this; exact this
    exact Lp 6 0 rfl
  · have M2 : (wi s1 177 5 0).1 178 = g := by rw [wi_na _ _ _ _ (by decide)]; exact M1.2.2.1
    refine m_survey M2 O (by decide) (fun s2 f2 S2 => ⟨7, ?_⟩)
    have f0 : fm mD mF s1 s2 := m_th.tr (f2.mono (by decide) (by decide))
    have inner : ∀ (k15 : Int32 → Int32 → Int32 → gS → Prop) (y1 y2 : Int32) (e : Nat), e < 6 → ((y1 = (-1) → wX12_asks_85 Q k15 (nI e) (nI (mst g e 6)) s2) ∧ (¬ (y1 = (-1)) → (nI (mst g e 6) < y2 → wX12_asks_85 Q k15 (nI e) (nI (mst g e 6)) s2) ∧ (¬ (nI (mst g e 6) < y2) → k15 y1 y2 (nI e + 1) s2))) → ∀ n i, i + n = 6 → wX12_asks_39 Q k15 (n + 1) y1 y2 (nI e) (nI (mst g e i)) (nI i) s2 := by
      intro k15 y1 y2 e he H n
      induction n with
      | zero =>
        intro i hi
        have : i = 6 := by omega
        subst this
        rw [wX12_asks_39]
        exact ⟨fun _ => H, fun h => absurd (by decide) h⟩
      | succ n ih =>
        intro i hi
        have hi6 : i < 6 := by omega
        have e1 : 6 * nI e + nI i = nI (6 * e + i) := by
          simp only [lit_i, nI_i, iI_add, iI_mul]
          congr 1
        have e2 : gi s2 183 (6 * e + i) = nI (cw g e i) := S2.2.2.1 e i he hi6
        have e3 : jmax (nI (mst g e i)) (nI (cw g e i)) = nI (mst g e (i + 1)) := by
          have := mst_le O e i
          have := cw_le O e i
          rw [nI_i, nI_i, iI_max (by omega) (by omega) (by omega) (by omega), nI_i]
          congr 1
          show max (mst g e i : Int) (cw g e i : Int) = ((max (mst g e i) (cw g e i) : Nat) : Int)
          omega
        rw [wX12_asks_39, nI_1 i]
        simp only [ge6 hi6, e1, ix_nI (show 6 * e + i < 2 ^ 31 by omega), e2, e3, vp_in_nI (show 6 * e + i < 36 by omega) (show 36 < 2 ^ 31 by decide), false_implies, true_and, not_false_eq_true, true_implies]
        exact ih (i + 1) (by omega)
    have Lp : ∀ n e, e + n = 6 → wX12_asks_15 Q (n + 1) (askE (-1) (ask g e)) (nI (askM (ask g e))) (nI e) s2 := by
      intro n
      induction n with
      | zero =>
        intro e he
        have : e = 6 := by omega
        subst this
        rw [wX12_asks_15]
        refine ⟨fun _ => ?_, fun h => absurd (by decide) h⟩
        cases ha : ask g 6 with
        | none =>
          rw [ha] at k
          refine ⟨fun h => absurd rfl h, fun _ => k s2 f0 ⟨?_, fun i hi => ?_⟩⟩
          · rw [f2.2.1 4 (by decide), wi_ne _ _ _ _ (by decide)]; exact M1.2.1.1
          · rw [f2.2.2.1 180 (by decide)]; exact M1.2.1.2 i hi
        | some p =>
          obtain ⟨e, m⟩ := p
          rw [ha] at k
          have hb := ask_bd O 6 e m ha
          refine ⟨fun _ => ?_, fun h => absurd h (n1 e hb.1)⟩
          refine m_tell m_new (by decide) (fun s3 f3 R3 => ?_)
          exact k s3 (f0.tr (m_rw.tr (f3.mono (by decide) (by decide)))) R3
      | succ n ih =>
        intro e he
        have he6 : e < 6 := by omega
        have := ih (e + 1) (by omega)
        have hm := mst_le O e 6
        have hc := cnt_le 6 (lf g e)
        rw [wX12_asks_15]
        refine ⟨fun h => absurd h (by rw [ge6 he6]; exact id), fun _ => ?_⟩
        refine m_leftMany O S2 he6 ?_
        rw [show (2 : Int32) = nI 2 from rfl, nI_leI (by decide) (by omega)]
        refine ⟨fun h => ⟨7, ?_⟩, fun h => ?_⟩
        · have ho : opq g e = true := by unfold opq; simp; omega
          rw [ask, ho] at this
          simp only [if_true] at this
          refine inner _ _ _ e he6 ?_ 6 0 rfl
          cases ha : ask g e with
          | none =>
            rw [ha] at this
            refine ⟨fun _ => ?_, fun h => absurd rfl h⟩
            unfold wX12_asks_85
            rw [nI_1]
            exact this
          | some p =>
            obtain ⟨e1, m1⟩ := p
            have hb := ask_bd O e e1 m1 ha
            rw [ha] at this
            simp only at this
            refine ⟨fun h => absurd h (n1 e1 (by omega)), fun _ => ?_⟩
            show (nI (mst g e 6) < nI m1 → _) ∧ (¬ nI (mst g e 6) < nI m1 → _)
            rw [nI_ltI (by omega) (by omega)]
            unfold wX12_asks_85
            rw [nI_1]
            refine ⟨fun h => ?_, fun h => ?_⟩
            · rw [if_pos (by omega)] at this; exact this
            · rw [if_neg (by omega)] at this; exact this
        · have ho : opq g e = false := by unfold opq; simp; omega
          rw [ask, ho] at this
          rw [nI_1]
          exact this
    exact Lp 6 0 rfl
/-- readings that are left and have a day of a span -/
def hv (g : Sy) (e : Nat) (a b : Int) (i : Nat) : Bool := lf g e i && (decide (vl g e i 0 ≤ b) && decide (a ≤ vl g e i 1))
theorem c_meet {a e : Nat} {x y : Int} (O : okS 10 g) (R : repC (s.1 (a + 1)) g) (he : e < 6) (hx : -2147483648 ≤ x ∧ x ≤ 2147483647) (hy : -2147483648 ≤ y ∧ y ≤ 2147483647) (k : Q (nI (bts 6 (hv g e x y))) s) : wpX8_bitsThatMeet a (nI e) (nI (bts 6 (lf g e))) (iI x) (iI y) s Q := by
  have Lp : ∀ n i, i + n = 6 → wX8_bitsThatMeet_6 a (nI e) (nI (bts 6 (lf g e))) (iI x) (iI y) Q (n + 1) (nI (bts i (hv g e x y))) (nI i) s := by
    intro n
    induction n with
    | zero =>
      intro i hi
      have : i = 6 := by omega
      subst this
      rw [wX8_bitsThatMeet_6]
      exact ⟨fun _ => k, fun h => absurd (by decide) h⟩
    | succ n ih =>
      intro i hi
      have hi6 : i < 6 := by omega
      have := ih (i + 1) (by omega)
      rw [bts_s i (hv g e x y)] at this
      rw [wX8_bitsThatMeet_6, c_hasBit hi6, nI_1, bts_st (by omega)]
      simp only [ge6 hi6, bi_0, false_implies, true_and, not_false_eq_true, true_implies]
      cases hl : lf g e i with
      | false =>
        have hz : hv g e x y i = false := by simp [hv, hl]
        rw [hz] at this
        exact ⟨fun _ => by simpa using this, fun h => absurd rfl h⟩
      | true =>
        have him := inn_lt (lf_inn he hi6 hl O)
        obtain ⟨r1, r2⟩ := okS_r O he him
        refine ⟨fun h => (by cases h), fun _ => ?_⟩
        rw [c_vA0 he hi6, c_v0 R he him, c_vA1 he hi6, c_v1 R he him, iI_lt (by omega) (by omega) (by omega) (by omega), iI_lt (by omega) (by omega) (by omega) (by omega)]
        refine ⟨fun h => ?_, fun h => ⟨fun h2 => ?_, fun h2 => ?_⟩⟩
        · have hz : hv g e x y i = false := by simp [hv, hl]; omega
          rw [hz] at this
          simpa using this
        · have hz : hv g e x y i = false := by simp [hv, hl]; omega
          rw [hz] at this
          simpa using this
        · have hz : hv g e x y i = true := by simp [hv, hl]; omega
          rw [hz] at this
          simpa using this
  exact ⟨7, Lp 6 0 rfl⟩
def may (g : Sy) (d : Int) (e : Nat) : Bool := !(bts 6 (hv g e d d) == 0)
def must (g : Sy) (d : Int) (e : Nat) : Bool := may g d e && (bts 6 (hv g e d d) == bts 6 (lf g e))
theorem m_hasDay {e i : Nat} {d : Int} (O : okS 10 g) (M : s.1 178 = g) (he : e < 6) (hi : i < mn g e) (hd : 0 ≤ d ∧ d ≤ 9999) : wpX12_hasDay (nI e) (nI i) (iI d) s Q = Q (bi (decide (vl g e i 0 ≤ d) && decide (d ≤ vl g e i 1))) s := by
  have hi6 : i < 6 := by have := (O.2.2.2.1 e he).2; omega
  obtain ⟨r1, r2⟩ := okS_r O he hi
  unfold wpX12_hasDay
  rw [show wpX12_of (nI e) (nI i) 0 s = wpX12_of (nI e) (nI i) (nI 0) s from rfl, m_ofv M he hi6 (by decide), show wpX12_of (nI e) (nI i) 1 s = wpX12_of (nI e) (nI i) (nI 1) s from rfl, m_ofv M he hi6 (by decide), m_in (by omega) (by omega) (by omega) (by omega) (by omega) (by omega)]
  apply propext
  rw [Bool.decide_and]
  exact ⟨fun h => h.2, fun h => ⟨bi_01 _, h⟩⟩
theorem may_iff {d : Int} {e : Nat} : may g d e = true ↔ ∃ i, i < 6 ∧ hv g e d d i = true := by
  unfold may
  constructor
  · intro h
    have h2 : ¬ bts 6 (hv g e d d) = 0 := by simpa using h
    rw [bts_eq0] at h2
    simp at h2
    exact h2
  · rintro ⟨i, h1, h2⟩
    have : ¬ bts 6 (hv g e d d) = 0 := fun h => by
      rw [bts_eq0.mp h i h1] at h2
      cases h2
    simpa using this
theorem m_mayHave {e : Nat} {d : Int} (O : okS 10 g) (M : s.1 178 = g) (S : SM g s) (he : e < 6) (hd : 0 ≤ d ∧ d ≤ 9999) (k : Q (bi (may g d e)) s) : wpX12_mayHave (nI e) (iI d) s Q := by
  have Lp : ∀ n i, i + n = 6 → (∀ j, j < i → hv g e d d j = false) → wX12_mayHave_2 (nI e) (iI d) Q (n + 1) (nI i) s := by
    intro n
    induction n with
    | zero =>
      intro i hi hn
      have : i = 6 := by omega
      subst this
      rw [wX12_mayHave_2]
      refine ⟨fun _ => ?_, fun h => absurd (by decide) h⟩
      have : may g d e = false := by
        cases h : may g d e with
        | false => rfl
        | true =>
          obtain ⟨i, h1, h2⟩ := may_iff.mp h
          rw [hn i h1] at h2
          cases h2
      rw [this] at k
      exact k
    | succ n ih =>
      intro i hi hn
      have hi6 : i < 6 := by omega
      rw [wX12_mayHave_2, m_isLeft O S he hi6, nI_1]
      simp only [ge6 hi6, bi_0, false_implies, true_and, not_false_eq_true, true_implies]
      have go : hv g e d d i = false → wX12_mayHave_2 (nI e) (iI d) Q (n + 1) (nI (i + 1)) s := fun hz => ih (i + 1) (by omega) (fun j hj => by
        by_cases h : j = i
        · subst h; exact hz
        · exact hn j (by omega))
      cases hl : lf g e i with
      | false => exact ⟨fun _ => go (by simp [hv, hl]), fun h => absurd rfl h⟩
      | true =>
        refine ⟨fun h => (by cases h), fun _ => ?_⟩
        rw [m_hasDay O M he (inn_lt (lf_inn he hi6 hl O)) hd]
        simp only [bi_0]
        cases hz : hv g e d d i with
        | false =>
          have h2 : (decide (vl g e i 0 ≤ d) && decide (d ≤ vl g e i 1)) = false := by simpa [hv, hl] using hz
          rw [h2]
          exact ⟨fun _ => go hz, fun h => absurd rfl h⟩
        | true =>
          have h2 : (decide (vl g e i 0 ≤ d) && decide (d ≤ vl g e i 1)) = true := by simpa [hv, hl] using hz
          rw [h2]
          rw [may_iff.mpr ⟨i, hi6, hz⟩] at k
          exact ⟨fun h => (by cases h), fun _ => k⟩
  exact ⟨7, Lp 6 0 rfl (fun j hj => by omega)⟩
theorem must_iff {d : Int} {e : Nat} : must g d e = true ↔ (∀ i, i < 6 → lf g e i = true → hv g e d d i = true) ∧ ∃ i, i < 6 ∧ lf g e i = true := by
  unfold must
  rw [Bool.and_eq_true, may_iff, beq_iff_eq]
  constructor
  · rintro ⟨⟨i, h1, h2⟩, h3⟩
    have h4 : ∀ i, i < 6 → hv g e d d i = lf g e i := fun i hi => by
      have := congrArg (fun b => Nat.testBit b i) h3
      simpa [bts_tb, hi] using this
    exact ⟨fun j hj hl => by rw [h4 j hj]; exact hl, i, h1, by rw [← h4 i h1]; exact h2⟩
  · rintro ⟨h1, i, h2, h3⟩
    refine ⟨⟨i, h2, h1 i h2 h3⟩, bts_cg (fun j hj => ?_)⟩
    cases hl : lf g e j with
    | true => exact h1 j hj hl
    | false => simp [hv, hl]
theorem m_mustHave {e : Nat} {d : Int} (O : okS 10 g) (M : s.1 178 = g) (S : SM g s) (he : e < 6) (hd : 0 ≤ d ∧ d ≤ 9999) (k : Q (bi (must g d e)) s) : wpX12_mustHave (nI e) (iI d) s Q := by
  have Lp : ∀ n i, i + n = 6 → (∀ j, j < i → lf g e j = true → hv g e d d j = true) → wX12_mustHave_2 (nI e) (iI d) Q (n + 1) (nI i) s := by
    intro n
    induction n with
    | zero =>
      intro i hi hn
      have : i = 6 := by omega
      subst this
      rw [wX12_mustHave_2]
      refine ⟨fun _ => m_leftMany O S he ?_, fun h => absurd (by decide) h⟩
      have hc := cnt_le 6 (lf g e)
      have hz : (cnt 6 (lf g e) ≤ 0) ↔ ∀ i, i < 6 → lf g e i = false := by
        have : ∀ n, (cnt n (lf g e) ≤ 0) ↔ ∀ i, i < n → lf g e i = false := by
          intro n
          induction n with
          | zero => simp [cnt]
          | succ n ih =>
            rw [cnt_s]
            constructor
            · intro h i hi
              have h1 : cnt n (lf g e) ≤ 0 := by omega
              by_cases e1 : i = n
              · subst e1
                cases h2 : lf g e i with
                | false => rfl
                | true => rw [h2] at h; simp at h
              · exact ih.mp h1 i (by omega)
            · intro h
              have := ih.mpr (fun i hi => h i (by omega))
              rw [h n (by omega)]
              simpa using this
        exact this 6
      rw [show (0 : Int32) = nI 0 from rfl, nI_leI (by omega) (by decide)]
      refine ⟨fun h => ?_, fun h => ?_⟩
      · have : must g d e = false := by
          cases h2 : must g d e with
          | false => rfl
          | true =>
            obtain ⟨-, i, h3, h4⟩ := must_iff.mp h2
            rw [hz.mp h i h3] at h4
            cases h4
        rw [this] at k
        exact k
      · have : must g d e = true := must_iff.mpr ⟨hn, by
          apply Classical.byContradiction
          intro hne
          apply h
          apply hz.mpr
          intro i hi
          cases h3 : lf g e i with
          | false => rfl
          | true => exact absurd ⟨i, hi, h3⟩ hne⟩
        rw [this] at k
        exact k
    | succ n ih =>
      intro i hi hn
      have hi6 : i < 6 := by omega
      rw [wX12_mustHave_2, m_isLeft O S he hi6, nI_1]
      simp only [ge6 hi6, bi_0, false_implies, true_and, not_false_eq_true, true_implies]
      have go : (lf g e i = true → hv g e d d i = true) → wX12_mustHave_2 (nI e) (iI d) Q (n + 1) (nI (i + 1)) s := fun hz => ih (i + 1) (by omega) (fun j hj hl => by
        by_cases h : j = i
        · subst h; exact hz hl
        · exact hn j (by omega) hl)
      cases hl : lf g e i with
      | false => exact ⟨fun _ => go (fun h => by rw [hl] at h; cases h), fun h => absurd rfl h⟩
      | true =>
        refine ⟨fun h => (by cases h), fun _ => ?_⟩
        rw [m_hasDay O M he (inn_lt (lf_inn he hi6 hl O)) hd]
        simp only [bi_0]
        cases hz : hv g e d d i with
        | true =>
          have h2 : (decide (vl g e i 0 ≤ d) && decide (d ≤ vl g e i 1)) = true := by simpa [hv, hl] using hz
          rw [h2]
          exact ⟨fun _ => go (fun _ => hz), fun h => (by cases h)⟩
        | false =>
          have h2 : (decide (vl g e i 0 ≤ d) && decide (d ≤ vl g e i 1)) = false := by simpa [hv, hl] using hz
          rw [h2]
          have : must g d e = false := by
            cases h3 : must g d e with
            | false => rfl
            | true =>
              rw [(must_iff.mp h3).1 i hi6 hl] at hz
              cases hz
          rw [this] at k
          exact ⟨fun h => absurd rfl h, fun _ => k⟩
  exact ⟨7, Lp 6 0 rfl (fun j hj => by omega)⟩
theorem c_isDay {z : Int} (h1 : -2147483648 ≤ z) (h2 : z ≤ 2147483647) : wpX11_isDay (iI z) s Q = Q (bi (decide (0 ≤ z ∧ z ≤ 9999))) s := by
  unfold wpX11_isDay
  rw [show (0 : Int32) = iI 0 from rfl, show (9999 : Int32) = iI 9999 from rfl, iI_lt h1 h2 (by decide) (by decide), iI_lt (by decide) (by decide) h1 h2]
  by_cases a : z < 0
  · have : ¬ (0 ≤ z ∧ z ≤ 9999) := by omega
    simp [a, this, bi]
    exact Iff.rfl
  · by_cases b : 9999 < z
    · have : ¬ (0 ≤ z ∧ z ≤ 9999) := by omega
      simp [a, b, this, bi]
      exact Iff.rfl
    · have : (0 ≤ z ∧ z ≤ 9999) := by omega
      simp [a, b, this, bi]
theorem m_isDay {z : Int} (h1 : -2147483648 ≤ z) (h2 : z ≤ 2147483647) : wpX12_isDay (iI z) s Q = Q (bi (decide (0 ≤ z ∧ z ≤ 9999))) s := by
  unfold wpX12_isDay
  show wpX12_in (iI z) (iI 0) (iI 9999) s _ = _
  rw [m_in h1 h2 (by decide) (by decide) (by decide) (by decide)]
  apply propext
  exact ⟨fun h => h.2, fun h => ⟨bi_01 _, h⟩⟩
theorem S_on {x : Int32} (A : okA t L g us ks) (C : CI t L g us ks s) (M : MI t L g us ks s) (kk : KK t K) : wpX11_on x s (fun r s1 => wpX12_on x s1 (eqK K r)) := by
  have O := A.2.2.1.1
  obtain ⟨d, d1, d2, rfl⟩ := i_ex x
  by_cases hd : 0 ≤ d ∧ d ≤ 9999
  · refine S_q (L' := [nI (bts 6 (must g d))]) (r := nI (bts 6 (may g d))) (WC := wpX11_on (iI d) s) (WM := wpX12_on (iI d)) A C M (by simp) kk (fun Q k => ?_) (fun s1 M1 Q k => ?_)
    · unfold wpX11_on
      rw [c_isDay d1 d2]
      simp only [hd, and_self, decide_true]
      refine ⟨fun _ => ?_, fun h => absurd h (by decide)⟩
      refine c_solved O C.2.2.1 C.2.2.2.1 (fun s1 f1 g1 v1 S1 => ⟨7, ?_⟩)
      have R1 : repC (s1.1 (20 + 1)) g := by rw [f1.1 (20 + 1) rfl]; exact C.2.2.1
      have Lp : ∀ n e, e + n = 6 → wX11_on_22 (iI d) Q (n + 1) (nI (bts e (may g d))) (nI (bts e (must g d))) (nI e) s1 := by
        intro n
        induction n with
        | zero =>
          intro e he
          have : e = 6 := by omega
          subst this
          rw [wX11_on_22]
          refine ⟨fun _ => ?_, fun h => absurd (by decide) h⟩
          refine c_clear (fun s2 f2 R2 => c_add R2 (by simp) (fun s3 f3 R3 => ?_))
          have f5 := f2.tr f3
          exact k s3 ((f1.mono sD_q).tr (f5.mono rD_q)) (fun j hj => by rw [f5.1 0 rfl, g1 j hj]) R3 (CV1 (by rw [f5.1 0 rfl]; exact v1) (rD_s f5 S1))
        | succ n ih =>
          intro e he
          have he6 : e < 6 := by omega
          have := ih (e + 1) (by omega)
          rw [bts_s, bts_s] at this
          rw [wX11_on_22]
          refine ⟨fun h => absurd h (by rw [ge6 he6]; exact id), fun _ => ?_⟩
          refine c_leftBits O S1 he6 ?_
          refine c_meet O R1 he6 (by omega) (by omega) ?_
          have hb1 := bts_64 (hv g e d d)
          have hb2 := bts_64 (lf g e)
          rw [bts_st (by omega), bts_st (by omega), nI_1, or_0, show (0 : Int32) = nI 0 from rfl, nI_eq (by omega) (by decide), nI_eq (by omega) (by omega)]
          refine ⟨fun h => ?_, fun h => ⟨fun h2 => ?_, fun h2 => ?_⟩⟩
          · have m1 : may g d e = false := by simp [may, h]
            have m2 : must g d e = false := by simp [must, m1]
            rw [m1, m2] at this
            simpa using this
          · have m1 : may g d e = true := by simp [may, h]
            have m2 : must g d e = false := by simp [must, h2]
            rw [m1, m2] at this
            simpa using this
          · have m1 : may g d e = true := by simp [may, h]
            have m2 : must g d e = true := by simp [must, m1, h2]
            rw [m1, m2] at this
            simpa using this
      exact Lp 6 0 rfl
    · unfold wpX12_on
      rw [m_isDay d1 d2]
      simp only [hd, and_self, decide_true]
      refine ⟨fun _ => ?_, fun h => absurd h (by decide)⟩
      have M2 : (wi s1 177 5 0).1 178 = g := by rw [wi_na _ _ _ _ (by decide)]; exact M1.2.2.1
      refine m_survey M2 O (by decide) (fun s2 f2 S2 => ⟨7, ?_⟩)
      have M3 : s2.1 178 = g := by rw [f2.1 178 (by decide) (by decide)]; exact M2
      have f0 : fm mD mF s1 s2 := m_th.tr (f2.mono (by decide) (by decide))
      have Lp : ∀ n e, e + n = 6 → wX12_on_25 (iI d) Q (n + 1) (nI (bts e (may g d))) (nI (bts e (must g d))) (nI e) s2 := by
        intro n
        induction n with
        | zero =>
          intro e he
          have : e = 6 := by omega
          subst this
          rw [wX12_on_25]
          refine ⟨fun _ => ?_, fun h => absurd (by decide) h⟩
          refine m_tell m_new (by simp) (fun s3 f3 R3 => ?_)
          exact k s3 (f0.tr (m_rw.tr (f3.mono (by decide) (by decide)))) R3
        | succ n ih =>
          intro e he
          have he6 : e < 6 := by omega
          have := ih (e + 1) (by omega)
          rw [bts_s, bts_s] at this
          rw [wX12_on_25]
          refine ⟨fun h => absurd h (by rw [ge6 he6]; exact id), fun _ => ?_⟩
          refine m_mayHave O M3 S2 he6 hd ?_
          unfold wX12_on_51
          simp only [bi_0]
          cases m1 : may g d e with
          | false =>
            have m2 : must g d e = false := by simp [must, m1]
            refine ⟨fun _ => ?_, fun h => absurd rfl h⟩
            refine m_mustHave O M3 S2 he6 hd ?_
            rw [m2, or_0, or_0, nI_1]
            rw [m1, m2] at this
            exact ⟨fun _ => by simpa using this, fun h => absurd rfl h⟩
          | true =>
            refine ⟨fun h => (by cases h), fun _ => ?_⟩
            refine m_mustHave O M3 S2 he6 hd ?_
            simp only [bi_0]
            rw [or_0, nI_1, bts_st (by omega), bts_st (by omega)]
            cases m2 : must g d e with
            | false =>
              rw [m1, m2] at this
              exact ⟨fun _ => by simpa using this, fun h => absurd rfl h⟩
            | true =>
              rw [m1, m2] at this
              exact ⟨fun h => (by cases h), fun _ => by simpa using this⟩
      exact Lp 6 0 rfl
  · refine S_q (L' := L) (r := -1) (WC := wpX11_on (iI d) s) (WM := wpX12_on (iI d)) A C M A.2.1 kk (fun Q k => ?_) (fun s1 M1 Q k => ?_)
    · unfold wpX11_on
      rw [c_isDay d1 d2]
      simp only [hd, decide_false]
      exact ⟨fun h => absurd rfl h, fun _ => qC_self C k⟩
    · unfold wpX12_on
      rw [m_isDay d1 d2]
      simp only [hd, decide_false]
      exact ⟨fun h => absurd rfl h, fun _ => qM_th M1 k⟩
end QUERY
