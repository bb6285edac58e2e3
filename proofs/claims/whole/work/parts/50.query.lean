/-! busiest, count, reading, row -/
section QUERY
variable {t : List Nat} {L : List Int32} {g : Sy} {us : List Sy} {ks : Nat → Option Sy} {s : gS} {Q : Int32 → gS → Prop} {K : gS → Prop}
theorem S_choices (A : okA t L g us ks) (C : CI t L g us ks s) (M : MI t L g us ks s) (kk : KK t K) : wpX11_choices s (fun r s1 => wpX12_choices s1 (eqK K r)) := S_q (WC := wpX11_choices s) (WM := wpX12_choices) A C M (by simp) kk (fun Q k => C_choices A C k) (fun s1 M1 Q k => M_choices A M1 k)
theorem S_best (A : okA t L g us ks) (C : CI t L g us ks s) (M : MI t L g us ks s) (kk : KK t K) : wpX11_best s (fun r s1 => wpX12_best s1 (eqK K r)) := S_q (WC := wpX11_best s) (WM := wpX12_best) A C M (by split; exact A.2.1; simp [six]) kk (fun Q k => C_best A C k) (fun s1 M1 Q k => M_best A M1 k)
/-- how many events may have a day -/
theorem c_mayMany {d : Int} (O : okS 10 g) (R : repC (s.1 21) g) (v : s.1 0 13 = 1) (S : SC 38 g s) (hd : 0 ≤ d ∧ d ≤ 9999) (k : Q (nI (cnt 6 (may g d))) s) : wpX11_eventsThatMayHave (iI d) s Q := by
  have Lp : ∀ n e, e + n = 6 → wX11_eventsThatMayHave_4 (iI d) Q (n + 1) (nI (cnt e (may g d))) (nI e) s := by
    intro n
    induction n with
    | zero =>
      intro e he
      have : e = 6 := by omega
      subst this
      rw [wX11_eventsThatMayHave_4]
      exact ⟨fun _ => k, fun h => absurd (by decide) h⟩
    | succ n ih =>
      intro e he
      have he6 : e < 6 := by omega
      have := ih (e + 1) (by omega)
      rw [cnt_s] at this
      rw [wX11_eventsThatMayHave_4]
      refine ⟨fun h => absurd h (by rw [ge6 he6]; exact id), fun _ => ?_⟩
      unfold wpX11_solved
      refine ⟨fun _ => ?_, fun h => ?_⟩
      · refine c_leftBits O S he6 ?_
        refine c_meet O R he6 (by omega) (by omega) ?_
        have hb1 := bts_64 (hv g e d d)
        rw [nI_1, nI_1, show (0 : Int32) = nI 0 from rfl, nI_eq (by omega) (by decide)]
        refine ⟨fun h => ?_, fun h => ?_⟩
        · have m1 : may g d e = false := by simp [may, h]
          rw [m1] at this
          simpa using this
        · have m1 : may g d e = true := by simp [may, h]
          rw [m1] at this
          simpa using this
      · have h2 : s.1 0 13 = 0 := h
        rw [v] at h2
        exact absurd h2 (by decide)
  exact ⟨7, Lp 6 0 rfl⟩
theorem m_mayMany {d : Int} (O : okS 10 g) (M : s.1 178 = g) (S : SM g s) (hd : 0 ≤ d ∧ d ≤ 9999) (k : Q (nI (cnt 6 (may g d))) s) : wpX12_mayMany (iI d) s Q := by
  have Lp : ∀ n e, e + n = 6 → wX12_mayMany_4 (iI d) Q (n + 1) (nI (cnt e (may g d))) (nI e) s := by
    intro n
    induction n with
    | zero =>
      intro e he
      have : e = 6 := by omega
      subst this
      rw [wX12_mayMany_4]
      exact ⟨fun _ => k, fun h => absurd (by decide) h⟩
    | succ n ih =>
      intro e he
      have he6 : e < 6 := by omega
      have := ih (e + 1) (by omega)
      rw [cnt_s] at this
      rw [wX12_mayMany_4]
      refine ⟨fun h => absurd h (by rw [ge6 he6]; exact id), fun _ => ?_⟩
      refine m_mayHave O M S he6 hd ?_
      rw [nI_1, nI_1, show ∀ z, nI z + 0 = nI z from fun z => Int32.add_zero _]
      simp only [bi_0]
      cases m1 : may g d e with
      | false =>
        rw [m1] at this
        exact ⟨fun _ => by simpa using this, fun h => absurd rfl h⟩
      | true =>
        rw [m1] at this
        exact ⟨fun h => (by cases h), fun _ => by simpa using this⟩
  exact ⟨7, Lp 6 0 rfl⟩
/-- the busiest day of the first readings: day and how many; -1: none yet -/
def bzI (g : Sy) (e : Nat) (b : Int × Nat) : Nat → Int × Nat
  | 0 => b
  | n + 1 => if lf g e n then (if (bzI g e b n).2 < cnt 6 (may g (vl g e n 0)) ∨ cnt 6 (may g (vl g e n 0)) = (bzI g e b n).2 ∧ vl g e n 0 < (bzI g e b n).1 then (vl g e n 0, cnt 6 (may g (vl g e n 0))) else bzI g e b n) else bzI g e b n
def bz (g : Sy) (z : Int) : Nat → Int × Nat
  | 0 => (z, 0)
  | n + 1 => bzI g n (bz g z n) 6
def bzR (b c : Int × Nat) : Prop := (b = (-2, 0) ∧ c = (-1, 0)) ∨ (b = c ∧ 0 ≤ b.1 ∧ b.1 ≤ 9999 ∧ 1 ≤ b.2 ∧ b.2 ≤ 6)
theorem cnt_pos {n i : Nat} {p : Nat → Bool} (hi : i < n) (h : p i = true) : 1 ≤ cnt n p := by
  induction n with
  | zero => omega
  | succ n ih =>
    rw [cnt_s]
    by_cases e : i = n
    · subst e; simp [h]
    · have := ih (by omega)
      omega
theorem bz_day {e i : Nat} (O : okS 10 g) (he : e < 6) (hi : i < 6) (hl : lf g e i = true) : (0 ≤ vl g e i 0 ∧ vl g e i 0 ≤ 9999) ∧ 1 ≤ cnt 6 (may g (vl g e i 0)) := by
  have him := inn_lt (lf_inn he hi hl O)
  obtain ⟨h1, h2, h3, -⟩ := O.2.2.2.2 e he i him
  refine ⟨by omega, cnt_pos he (may_iff.mpr ⟨i, hi, ?_⟩)⟩
  simp [hv, hl, h2]
theorem bzI_R {e : Nat} {b c : Int × Nat} (O : okS 10 g) (he : e < 6) (h : bzR b c) : ∀ n, n ≤ 6 → bzR (bzI g e b n) (bzI g e c n) := by
  intro n
  induction n with
  | zero => intro _; exact h
  | succ n ih =>
    intro hn
    have h2 := ih (by omega)
    unfold bzI
    cases hl : lf g e n with
    | false => simpa using h2
    | true =>
      simp only [if_true]
      obtain ⟨d1, d2⟩ := bz_day O he (show n < 6 by omega) hl
      have d3 := cnt_le 6 (may g (vl g e n 0))
      rcases h2 with ⟨e1, e2⟩ | ⟨e1, e2⟩
      · rw [e1, e2, if_pos (Or.inl (by show 0 < _; omega)), if_pos (Or.inl (by show 0 < _; omega))]
        exact Or.inr ⟨rfl, d1.1, d1.2, d2, d3⟩
      · rw [← e1]
        split
        · exact Or.inr ⟨rfl, d1.1, d1.2, d2, d3⟩
        · exact Or.inr ⟨rfl, e2⟩
theorem bz_R (O : okS 10 g) : ∀ n, n ≤ 6 → bzR (bz g (-2) n) (bz g (-1) n) := by
  intro n
  induction n with
  | zero => intro _; exact Or.inl ⟨rfl, rfl⟩
  | succ n ih => intro hn; exact bzI_R O (by omega) (ih (by omega)) 6 (Nat.le_refl _)
theorem S_busiest (A : okA t L g us ks) (C : CI t L g us ks s) (M : MI t L g us ks s) (kk : KK t K) : wpX11_busiest s (fun r s1 => wpX12_busiest s1 (eqK K r)) := by
  have O := A.2.2.1.1
  have bd : ∀ n, n ≤ 6 → ∀ e i, e = n → i ≤ 6 → bzR (bzI g e (bz g (-2) n) i) (bzI g e (bz g (-1) n) i) ∨ ¬ e < 6 := fun n hn e i he hi => by
    by_cases h6 : e < 6
    · exact Or.inl (bzI_R O h6 (bz_R O n hn) i hi)
    · exact Or.inr h6
  refine S_q (L' := if bz g (-1) 6 = (-1, 0) then L else [nI (bz g (-1) 6).2]) (r := if bz g (-1) 6 = (-1, 0) then -2 else iI (bz g (-1) 6).1) (WC := wpX11_busiest s) (WM := wpX12_busiest) A C M (by split; exact A.2.1; simp) kk (fun Q k => ?_) (fun s1 M1 Q k => ?_)
  · refine c_solved O C.2.2.1 C.2.2.2.1 (fun s1 f1 g1 v1 S1 => ⟨7, ?_⟩)
    have R1 : repC (s1.1 (20 + 1)) g := by rw [f1.1 (20 + 1) rfl]; exact C.2.2.1
    have inner : ∀ (k13 : Int32 → Int32 → Int32 → gS → Prop) (e : Nat), e < 6 → k13 (iI (bz g (-2) (e + 1)).1) (nI (bz g (-2) (e + 1)).2) (nI (e + 1)) s1 → ∀ n i, i + n = 6 → wX11_busiest_31 Q k13 (n + 1) (iI (bzI g e (bz g (-2) e) i).1) (nI (bzI g e (bz g (-2) e) i).2) (nI e) (nI (bts 6 (lf g e))) (nI i) s1 := by
      intro k13 e he H n
      induction n with
      | zero =>
        intro i hi
        have : i = 6 := by omega
        subst this
        rw [wX11_busiest_31]
        refine ⟨fun _ => ?_, fun h => absurd (by decide) h⟩
        rw [nI_1]
        exact H
      | succ n ih =>
        intro i hi
        have hi6 : i < 6 := by omega
        have := ih (i + 1) (by omega)
        have hR := bzI_R O he (bz_R O e (by omega)) i (by omega)
        rw [wX11_busiest_31, c_hasBit hi6, nI_1 i]
        simp only [ge6 hi6, bi_0, false_implies, true_and, not_false_eq_true, true_implies]
        cases hl : lf g e i with
        | false =>
          rw [bzI, hl] at this
          exact ⟨fun h => absurd rfl h, fun _ => this⟩
        | true =>
          rw [bzI, hl] at this
          simp only [if_true] at this
          obtain ⟨d1, d2⟩ := bz_day O he hi6 hl
          have d3 := cnt_le 6 (may g (vl g e i 0))
          have him := inn_lt (lf_inn he hi6 hl O)
          refine ⟨fun _ => ?_, fun h => (by cases h)⟩
          rw [c_vA0 he hi6, c_v0 R1 he him]
          refine c_mayMany O R1 v1 S1 d1 ?_
          generalize hB : bzI g e (bz g (-2) e) i = B at *
          generalize hC : bzI g e (bz g (-1) e) i = D at *
          have hbd : B.2 ≤ 6 ∧ -2 ≤ B.1 ∧ B.1 ≤ 9999 := by
            rcases hR with ⟨e1, -⟩ | ⟨-, h1, h2, h3, h4⟩
            · rw [e1]; decide
            · omega
          unfold wX11_busiest_91
          rw [nI_1, nI_ltI (by omega) (by omega), nI_eq (by omega) (by omega), iI_le (by omega) (by omega) (by omega) (by omega)]
          refine ⟨fun h => ?_, fun h => ⟨fun h2 => ?_, fun h2 => ⟨fun h3 => ?_, fun h3 => ?_⟩⟩⟩
          · rw [if_pos (Or.inl h)] at this; exact this
          · rw [if_neg (by omega)] at this; exact this
          · rw [if_neg (by omega)] at this; exact this
          · rw [if_pos (by omega)] at this; exact this
    have Lp : ∀ n e, e + n = 6 → wX11_busiest_13 Q (n + 1) (iI (bz g (-2) e).1) (nI (bz g (-2) e).2) (nI e) s1 := by
      intro n
      induction n with
      | zero =>
        intro e he
        have : e = 6 := by omega
        subst this
        rw [wX11_busiest_13]
        refine ⟨fun _ => ?_, fun h => absurd (by decide) h⟩
        rcases bz_R O 6 (Nat.le_refl _) with ⟨e1, e2⟩ | ⟨e1, h1, h2, h3, h4⟩
        · rw [if_pos e2, if_pos e2] at k
          rw [e1]
          exact ⟨fun _ => k s1 (f1.mono sD_q) g1 (sD_r f1 C.2.1) (CV1 v1 S1), fun h => absurd rfl h⟩
        · have hne : ¬ bz g (-1) 6 = (-1, 0) := fun h => by
            rw [← e1] at h
            rw [h] at h1
            exact absurd h1 (by decide)
          rw [if_neg hne, if_neg hne, ← e1] at k
          rw [show (-2 : Int32) = iI (-2) from rfl, iI_eq (by omega) (by omega) (by decide) (by decide)]
          refine ⟨fun h => by omega, fun _ => ?_⟩
          refine c_clear (fun s2 f2 R2 => c_add R2 (by decide) (fun s3 f3 R3 => ?_))
          have f5 := f2.tr f3
          exact k s3 ((f1.mono sD_q).tr (f5.mono rD_q)) (fun j hj => by rw [f5.1 0 rfl, g1 j hj]) R3 (CV1 (by rw [f5.1 0 rfl]; exact v1) (rD_s f5 S1))
      | succ n ih =>
        intro e he
        have he6 : e < 6 := by omega
        rw [wX11_busiest_13]
        refine ⟨fun h => absurd h (by rw [ge6 he6]; exact id), fun _ => ?_⟩
        refine c_leftBits O S1 he6 ⟨7, inner _ e he6 (ih (e + 1) (by omega)) 6 0 rfl⟩
    exact Lp 6 0 rfl
  · have M2 : (wi s1 177 5 0).1 178 = g := by rw [wi_na _ _ _ _ (by decide)]; exact M1.2.2.1
    refine m_survey M2 O (by decide) (fun s2 f2 S2 => ⟨7, ?_⟩)
    have M3 : s2.1 178 = g := by rw [f2.1 178 (by decide) (by decide)]; exact M2
    have f0 : fm mD mF s1 s2 := m_th.tr (f2.mono (by decide) (by decide))
    have inner : ∀ (k15 : Int32 → Int32 → Int32 → gS → Prop) (e : Nat), e < 6 → k15 (iI (bz g (-1) (e + 1)).1) (nI (bz g (-1) (e + 1)).2) (nI (e + 1)) s2 → ∀ n i, i + n = 6 → wX12_busiest_24 Q k15 (n + 1) (iI (bzI g e (bz g (-1) e) i).1) (nI (bzI g e (bz g (-1) e) i).2) (nI e) (nI i) s2 := by
      intro k15 e he H n
      induction n with
      | zero =>
        intro i hi
        have : i = 6 := by omega
        subst this
        rw [wX12_busiest_24]
        refine ⟨fun _ => ?_, fun h => absurd (by decide) h⟩
        rw [nI_1]
        exact H
      | succ n ih =>
        intro i hi
        have hi6 : i < 6 := by omega
        have := ih (i + 1) (by omega)
        have hR := bzI_R O he (bz_R O e (by omega)) i (by omega)
        rw [wX12_busiest_24, m_isLeft O S2 he hi6, nI_1 i]
        simp only [ge6 hi6, bi_0, false_implies, true_and, not_false_eq_true, true_implies]
        cases hl : lf g e i with
        | false =>
          rw [bzI, hl] at this
          exact ⟨fun h => absurd rfl h, fun _ => this⟩
        | true =>
          rw [bzI, hl] at this
          simp only [if_true] at this
          obtain ⟨d1, d2⟩ := bz_day O he hi6 hl
          have d3 := cnt_le 6 (may g (vl g e i 0))
          refine ⟨fun _ => ?_, fun h => (by cases h)⟩
          rw [show wpX12_of (nI e) (nI i) 0 s2 = wpX12_of (nI e) (nI i) (nI 0) s2 from rfl, m_ofv M3 he hi6 (by decide)]
          refine m_mayMany O M3 S2 d1 ?_
          generalize hB : bzI g e (bz g (-2) e) i = B at *
          generalize hC : bzI g e (bz g (-1) e) i = D at *
          have hbd : D.2 ≤ 6 ∧ -2 ≤ D.1 ∧ D.1 ≤ 9999 := by
            rcases hR with ⟨-, e1⟩ | ⟨e1, h1, h2, h3, h4⟩
            · rw [e1]; decide
            · rw [← e1]; omega
          unfold wX12_busiest_83
          rw [nI_1, nI_ltI (by omega) (by omega), nI_eq (by omega) (by omega), iI_lt (by omega) (by omega) (by omega) (by omega)]
          refine ⟨fun h => ?_, fun h => ⟨fun h2 => ?_, fun h2 => ⟨fun h3 => ?_, fun h3 => ?_⟩⟩⟩
          · rw [if_neg (by omega)] at this; exact this
          · rw [if_pos (by omega)] at this; exact this
          · rw [if_pos (by omega)] at this; exact this
          · rw [if_neg (by omega)] at this; exact this
    have Lp : ∀ n e, e + n = 6 → wX12_busiest_15 Q (n + 1) (iI (bz g (-1) e).1) (nI (bz g (-1) e).2) (nI e) s2 := by
      intro n
      induction n with
      | zero =>
        intro e he
        have : e = 6 := by omega
        subst this
        rw [wX12_busiest_15]
        refine ⟨fun _ => ?_, fun h => absurd (by decide) h⟩
        rcases bz_R O 6 (Nat.le_refl _) with ⟨e1, e2⟩ | ⟨e1, h1, h2, h3, h4⟩
        · rw [if_pos e2, if_pos e2] at k
          rw [e2]
          refine ⟨fun h => absurd rfl h, fun _ => k s2 f0 ⟨?_, fun i hi => ?_⟩⟩
          · rw [f2.2.1 4 (by decide), wi_ne _ _ _ _ (by decide)]; exact M1.2.1.1
          · rw [f2.2.2.1 180 (by decide)]; exact M1.2.1.2 i hi
        · rw [e1] at h1 h2
          have hne : ¬ bz g (-1) 6 = (-1, 0) := fun h => by
            rw [h] at h1
            exact absurd h1 (by decide)
          rw [if_neg hne, if_neg hne] at k
          rw [show (-1 : Int32) = iI (-1) from rfl, iI_eq (by omega) (by omega) (by decide) (by decide)]
          refine ⟨fun _ => ?_, fun h => by omega⟩
          refine m_tell m_new (by decide) (fun s3 f3 R3 => ?_)
          exact k s3 (f0.tr (m_rw.tr (f3.mono (by decide) (by decide)))) R3
      | succ n ih =>
        intro e he
        have he6 : e < 6 := by omega
        rw [wX12_busiest_15]
        refine ⟨fun h => absurd h (by rw [ge6 he6]; exact id), fun _ => ⟨7, inner _ e he6 (ih (e + 1) (by omega)) 6 0 rfl⟩⟩
    exact Lp 6 0 rfl
end QUERY
