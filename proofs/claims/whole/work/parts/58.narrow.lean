/-! narrows -/
section MUT
variable {t : List Nat} {L : List Int32} {g g' : Sy} {us us' : List Sy} {ks : Nat → Option Sy} {s s' : gS} {K : gS → Prop} {N : Nat}
def naP (p : Nat → Nat → Bool) (g : Sy) : Sy := fun j => if (8 ≤ j ∧ j < 188 ∧ (j - 8) % 5 = 4) ∧ p ((j - 8) / 30) ((j - 8) / 5 % 6) = true ∧ (j - 8) / 5 % 6 < mn g ((j - 8) / 30) ∧ lf g ((j - 8) / 30) ((j - 8) / 5 % 6) = false then 0 else g j
def naG (g : Sy) : Sy := naP (fun _ _ => true) g
theorem na_h {p : Nat → Nat → Bool} {j : Nat} (h : ¬ (8 ≤ j ∧ j < 188 ∧ (j - 8) % 5 = 4)) : naP p g j = g j := by
  unfold naP
  rw [if_neg (fun h2 => h h2.1)]
theorem na_4 {p : Nat → Nat → Bool} {e i : Nat} (he : e < 6) (hi : i < 6) : naP p g (8 + 5 * (6 * e + i) + 4) = if p e i = true ∧ i < mn g e ∧ lf g e i = false then 0 else g (8 + 5 * (6 * e + i) + 4) := by
  unfold naP
  rw [show (8 + 5 * (6 * e + i) + 4 - 8) / 30 = e by omega, show (8 + 5 * (6 * e + i) + 4 - 8) / 5 % 6 = i by omega]
  by_cases h : p e i = true ∧ i < mn g e ∧ lf g e i = false
  · rw [if_pos ⟨by omega, h⟩, if_pos h]
  · rw [if_neg (fun h2 => h h2.2), if_neg h]
theorem na_inn {e i : Nat} (O : okS 10 g) (he : e < 6) (hi : i < 6) : inn (naG g) e i = lf g e i := by
  have hm : mn (naG g) e = mn g e := v_mn (na_h (by omega))
  unfold inn
  rw [hm, show naG g (8 + 5 * (6 * e + i) + 4) = _ from na_4 he hi]
  cases hl : lf g e i with
  | true =>
    have := lf_inn he hi hl O
    unfold inn at this
    rw [if_neg (by simp)]
    exact this
  | false =>
    by_cases h : i < mn g e
    · rw [if_pos ⟨rfl, h, rfl⟩]; simp
    · simp [h]
theorem ok_na (O : okU g) : okU (naG g) := by
  obtain ⟨O, Z⟩ := O
  have hm : ∀ e, e < 6 → mn (naG g) e = mn g e := fun e _ => v_mn (na_h (by omega))
  refine ⟨⟨?_, ?_, fun o ho => ?_, fun e he => ?_, fun e he i hi => ?_⟩, fun k hk => ?_⟩
  · rw [show naG g 0 = g 0 from na_h (by omega)]; exact O.1
  · have e1 : naG g 1 = g 1 := na_h (by omega)
    rw [e1, v_no e1]; exact O.2.1
  · rw [v_no (show naG g 1 = g 1 from na_h (by omega))] at ho
    exact v_okO (fun j hj => na_h (by omega)) (O.2.2.1 o ho)
  · rw [v_tl (show naG g (2 + e) = g (2 + e) from na_h (by omega)), hm e he, show naG g (2 + e) = g (2 + e) from na_h (by omega)]; exact O.2.2.2.1 e he
  · rw [hm e he] at hi
    have hm2 := (O.2.2.2.1 e he).2
    have h5 := O.2.2.2.2 e he i hi
    have hw : ∀ w, w < 4 → vl (naG g) e i w = vl g e i w := fun w hw => v_vl (na_h (by omega))
    unfold okR at *
    rw [hw 0 (by decide), hw 1 (by decide), hw 2 (by decide), hw 3 (by decide)]
    refine ⟨h5.1, h5.2.1, h5.2.2.1, h5.2.2.2.1, h5.2.2.2.2.1, h5.2.2.2.2.2.1, h5.2.2.2.2.2.2.1, ?_⟩
    rw [show naG g (8 + 5 * (6 * e + i) + 4) = _ from na_4 he (by omega)]
    split
    · exact Or.inl rfl
    · exact h5.2.2.2.2.2.2.2
  · rw [show naG g k = g k from na_h (by omega)]; exact Z k hk
theorem re_na {f f' : Sy} (O : okS 10 g) (R : repC f g) (h1 : ∀ e, e < 6 → f' (20 + e) = nI (bts 6 (lf g e))) (h2 : ∀ j, ¬ (20 ≤ j ∧ j < 26) → f' j = f j) : repC f' (naG g) := by
  have hno := O.2.1.2
  have hm : ∀ e, e < 6 → mn (naG g) e = mn g e := fun e _ => v_mn (na_h (by omega))
  have e1 : naG g 1 = g 1 := na_h (by omega)
  refine ⟨?_, ?_, ?_, fun o ho => ?_, fun e he => ⟨?_, ?_⟩, fun e he i hi w hw => ?_⟩
  · rw [h2 0 (by omega), show naG g 0 = g 0 from na_h (by omega)]; exact R.1
  · rw [h2 2 (by omega), e1]; exact R.2.1
  · rw [h2 1 (by omega), R.2.2.1]
    exact congrArg nI (bts_cg (fun e he => (v_tl (show naG g (2 + e) = g (2 + e) from na_h (by omega))).symm))
  · rw [v_no e1] at ho
    rw [h2 _ (by omega), v_cd (g := g) (g' := naG g) (fun j hj => show naG g j = g j from na_h (by omega))]
    exact R.2.2.2.1 o ho
  · rw [hm e he, h2 _ (by omega)]; exact (R.2.2.2.2.1 e he).1
  · rw [h1 e he]
    exact congrArg nI (bts_cg (fun i hi => (na_inn O he hi).symm))
  · rw [hm e he] at hi
    have hm2 := (O.2.2.2.1 e he).2
    rw [h2 _ (by omega), show naG g (8 + 5 * (6 * e + i) + w) = g (8 + 5 * (6 * e + i) + w) from na_h (by omega)]
    exact R.2.2.2.2.2 e he i hi w hw
/-- how many go out -/
def nOut (g : Sy) : Nat → Nat := sE (fun e => cnt 6 (fun i => inn g e i && !lf g e i))
theorem nOut_le (n : Nat) : nOut g n ≤ 6 * n := by
  unfold nOut
  induction n with
  | zero => exact Nat.le_refl _
  | succ n ih =>
    rw [sE]
    have := cnt_le 6 (fun i => inn g n i && !lf g n i)
    omega
theorem nOut_0 (O : okS 10 g) (h : nOut g 6 = 0) : naG g = g := by
  have hz : ∀ e, e < 6 → ∀ i, i < 6 → inn g e i = true → lf g e i = true := by
    intro e he i hi hin
    cases hl : lf g e i with
    | true => rfl
    | false =>
      exfalso
      have h1 : 1 ≤ cnt 6 (fun i => inn g e i && !lf g e i) := cnt_pos hi (by simp [hin, hl])
      have h2 : ∀ n, e < n → 1 ≤ nOut g n := by
        intro n
        unfold nOut
        induction n with
        | zero => intro h; omega
        | succ n ih =>
          intro h
          rw [sE]
          by_cases hen : e = n
          · subst hen; omega
          · have := ih (by omega); omega
      have := h2 6 he
      omega
  funext j
  by_cases hj : 8 ≤ j ∧ j < 188 ∧ (j - 8) % 5 = 4
  · obtain ⟨e, i, he, hi, rfl⟩ : ∃ e i, e < 6 ∧ i < 6 ∧ j = 8 + 5 * (6 * e + i) + 4 := ⟨(j - 8) / 30, (j - 8) / 5 % 6, by omega, by omega, by omega⟩
    rw [show naG g (8 + 5 * (6 * e + i) + 4) = _ from na_4 he hi]
    split
    next hc =>
      have hni : ¬ inn g e i = true := fun h => by rw [hz e he i hi h] at hc; cases hc.2.2
      have h8 := (O.2.2.2.2 e he i hc.2.1).2.2.2.2.2.2.2
      rcases h8 with h8 | h8
      · exact h8.symm
      · exact absurd (by unfold inn; simp [hc.2.1, h8]) hni
    next => rfl
  · exact na_h hj
theorem c_keepOnly {a so : Nat} {Q : Int32 → gS → Prop} (hso : a + 1 < so) (O : okS 10 g) (R : repC (s.1 (a + 1)) g) (S : SC so g s) (k3 : chs g = [] → Q (-3) s) (k1 : chs g ≠ [] → ∀ s', fR (fun c => c == a + 1) s s' → repC (s'.1 (a + 1)) (naG g) → Q (if nOut g 6 = 0 then -2 else nI (nOut g 6)) s') : wpX8_keepOnlyLeft a so s Q := by
  have hl := chs_le O
  unfold wpX8_keepOnlyLeft
  have hz : (nI (chs g).length = 0) = (chs g = []) := by
    rw [show (0 : Int32) = nI 0 from rfl, nI_eq (by omega) (by decide), List.length_eq_zero_iff]
  rw [show gi s so 8 = nI (chs g).length from S.1, hz]
  refine ⟨fun h => ⟨7, ?_⟩, k3⟩
  have Lp : ∀ n e, e + n = 6 → ∀ s1, fR (fun c => c == a + 1) s s1 → (∀ e', e' < e → s1.1 (a + 1) (20 + e') = nI (bts 6 (lf g e'))) → (∀ j, ¬ (20 ≤ j ∧ j < 20 + e) → s1.1 (a + 1) j = s.1 (a + 1) j) → wX8_keepOnlyLeft_18 a so Q (n + 1) (nI (nOut g e)) (nI e) s1 := by
    intro n
    induction n with
    | zero =>
      intro e he s1 f h1 h2
      have : e = 6 := by omega
      subst this
      have hb := nOut_le (g := g) 6
      have k := k1 h s1 f (re_na O R h1 (fun j hj => h2 j (by omega)))
      rw [wX8_keepOnlyLeft_18]
      refine ⟨fun _ => ?_, fun h => absurd (by decide) h⟩
      have hz2 : (nI (nOut g 6) = 0) = (nOut g 6 = 0) := by
        rw [show (0 : Int32) = nI 0 from rfl, nI_eq (by omega) (by decide)]
      rw [hz2]
      refine ⟨fun h3 => ?_, fun h3 => ?_⟩
      · rw [if_neg h3] at k; exact k
      · rw [if_pos h3] at k; exact k
    | succ n ih =>
      intro e he s1 f h1 h2
      have he6 : e < 6 := by omega
      have S1 : SC so g s1 := S.cg (fun b hb _ => f.1 b (by simp; omega))
      have e1 : 20 + nI e = nI (20 + e) := nI_add 20 e
      rw [wX8_keepOnlyLeft_18]
      refine ⟨fun h => absurd h (by rw [ge6 he6]; exact id), fun _ => ?_⟩
      refine c_leftBits O S1 he6 ?_
      have e2 : gi s1 (a + 1) (20 + e) = nI (bts 6 (inn g e)) := by
        show s1.1 (a + 1) (20 + e) = _
        rw [h2 _ (by omega)]
        exact (R.2.2.2.2.1 e he6).2
      rw [e1, ix_nI (by omega), e2, bdif6, pop_6, e2, band6, nI_1, nI_add]
      refine ⟨vp_in_nI (by omega) (by decide), vp_in_nI (by omega) (by decide), vp_in_nI (by omega) (by decide), ?_⟩
      refine ih (e + 1) (by omega) _ (f.tr (fR_wi (by simp))) (fun e' he' => ?_) (fun j hj => ?_)
      · by_cases hee : e' = e
        · subst hee
          rw [wi_at]
          refine congrArg nI (bts_cg (fun i hi => ?_))
          cases hlf : lf g e' i with
          | false => simp
          | true => simp [lf_inn he6 hi hlf O]
        · rw [wi_ne _ _ _ _ (by omega)]; exact h1 e' (by omega)
      · rw [wi_ne _ _ _ _ (by omega)]; exact h2 j (by omega)
  exact Lp 6 0 rfl s fR.rf (fun e' h => by omega) (fun j _ => rfl)
theorem cnt_dif {p q : Nat → Bool} (h : ∀ i, i < 6 → q i = true → p i = true) : ∀ n, n ≤ 6 → cnt n (fun i => p i && !q i) + cnt n q = cnt n p := by
  intro n
  induction n with
  | zero => intro _; rfl
  | succ n ih =>
    intro hn
    have := ih (by omega)
    rw [cnt_s, cnt_s, cnt_s]
    cases hq : q n with
    | true => rw [h n (by omega) hq]; simp; omega
    | false => cases p n <;> simp <;> omega
theorem m_refNarrow {Q : Int32 → gS → Prop} (M : s.1 178 = g) (O : okS 10 g) (k3 : chs g = [] → ∀ s', fm [182, 183, 184] [17, 18, 21] s s' → Q (-3) s') (k1 : chs g ≠ [] → ∀ s', fm [182, 183, 184] [17, 18, 21] s s' → SM g s' → Q (if nOut g 6 = 0 then -2 else nI (nOut g 6)) s') : wpX12_refusesNarrow s Q := by
  have hl := chs_le O
  refine m_survey M O (by decide) (fun s1 f1 S1 => ?_)
  have M1 : s1.1 178 = g := by rw [f1.1 178 (by decide) (by decide)]; exact M
  have hz : (nI (chs g).length = 0) = (chs g = []) := by
    rw [show (0 : Int32) = nI 0 from rfl, nI_eq (by omega) (by decide), List.length_eq_zero_iff]
  rw [show gi s1 177 17 = nI (chs g).length from S1.1, hz]
  refine ⟨fun h => ⟨7, ?_⟩, fun h => k3 h s1 f1⟩
  have Lp : ∀ n e, e + n = 6 → wX12_refusesNarrow_18 Q (n + 1) (nI (nOut g e)) (nI e) s1 := by
    intro n
    induction n with
    | zero =>
      intro e he
      have : e = 6 := by omega
      subst this
      have hb := nOut_le (g := g) 6
      have k := k1 h s1 f1 S1
      rw [wX12_refusesNarrow_18]
      refine ⟨fun _ => ?_, fun h => absurd (by decide) h⟩
      have hz2 : (nI (nOut g 6) = 0) = (nOut g 6 = 0) := by
        rw [show (0 : Int32) = nI 0 from rfl, nI_eq (by omega) (by decide)]
      rw [hz2]
      refine ⟨fun h3 => ?_, fun h3 => ?_⟩
      · rw [if_neg h3] at k; exact k
      · rw [if_pos h3] at k; exact k
    | succ n ih =>
      intro e he
      have he6 : e < 6 := by omega
      rw [wX12_refusesNarrow_18]
      refine ⟨fun h => absurd h (by rw [ge6 he6]; exact id), fun _ => ?_⟩
      refine m_inMany M1 O he6 (m_leftMany O S1 he6 ?_)
      have hd := cnt_dif (p := inn g e) (q := lf g e) (fun i hi h => lf_inn he6 hi h O) 6 (Nat.le_refl _)
      have e1 : nI (nOut g e) + (nI (cnt 6 (inn g e)) - nI (cnt 6 (lf g e))) = nI (nOut g (e + 1)) := by
        rw [nI_i, nI_i, nI_i, iI_sub, iI_add, nI_i]
        congr 1
        show _ = ((nOut g e + cnt 6 (fun i => inn g e i && !lf g e i) : Nat) : Int)
        omega
      rw [e1, nI_1]
      exact ih (e + 1) (by omega)
  exact Lp 6 0 rfl
theorem m_goNarrow {Q : gS → Prop} (M : s.1 178 = g) (O : okS 10 g) (S : SM g s) (k : ∀ s', fm [178] [] s s' → s'.1 178 = naG g → Q s') : wpX12_goNarrow s Q := by
  have Lp : ∀ n e, e + n = 6 → ∀ s1, fm [178] [] s s1 → s1.1 178 = naP (fun e' _ => decide (e' < e)) g → wX12_goNarrow_2 Q (n + 1) (nI e) s1 := by
    intro n
    induction n with
    | zero =>
      intro e he s1 f h
      have : e = 6 := by omega
      subst this
      rw [wX12_goNarrow_2]
      refine ⟨fun _ => k s1 f ?_, fun h => absurd (by decide) h⟩
      rw [h]
      funext j
      by_cases hj : 8 ≤ j ∧ j < 188 ∧ (j - 8) % 5 = 4
      · obtain ⟨e, i, he, hi, rfl⟩ : ∃ e i, e < 6 ∧ i < 6 ∧ j = 8 + 5 * (6 * e + i) + 4 := ⟨(j - 8) / 30, (j - 8) / 5 % 6, by omega, by omega, by omega⟩
        rw [show naG g (8 + 5 * (6 * e + i) + 4) = _ from na_4 he hi, na_4 he hi]
        simp [he]
      · rw [show naG g j = g j from na_h hj, na_h hj]
    | succ n ih =>
      intro e he s1 f h
      have he6 : e < 6 := by omega
      have hm6 := (O.2.2.2.1 e he6).2
      rw [wX12_goNarrow_2]
      refine ⟨fun h => absurd h (by rw [ge6 he6]; exact id), fun _ => ⟨mn g e + 1, ?_⟩⟩
      have e1 : 2 + nI e = nI (2 + e) := nI_add 2 e
      have inner : ∀ m i, i + m = mn g e → ∀ s2, fm [178] [] s s2 → s2.1 178 = naP (fun e' i' => decide (e' < e) || (decide (e' = e) && decide (i' < i))) g → wX12_goNarrow_10 Q (fun y1 s => wX12_goNarrow_2 Q (n + 1) y1 s) (m + 1) (nI e) (nI i) s2 := by
        intro m
        induction m with
        | zero =>
          intro i hi s2 f2 h2
          have : i = mn g e := by omega
          subst this
          have e2 : gi s2 178 (2 + e) = g (2 + e) := by
            show s2.1 178 (2 + e) = _
            rw [h2, na_h (by omega)]
          rw [wX12_goNarrow_10, e1, ix_nI (by omega), e2, nI_1]
          refine ⟨vp_in_nI (by omega) (by decide), fun _ => ih (e + 1) (by omega) s2 f2 ?_, fun h => ?_⟩
          · rw [h2]
            funext j
            by_cases hj : 8 ≤ j ∧ j < 188 ∧ (j - 8) % 5 = 4
            · obtain ⟨e', i', he', hi', rfl⟩ : ∃ e i, e < 6 ∧ i < 6 ∧ j = 8 + 5 * (6 * e + i) + 4 := ⟨(j - 8) / 30, (j - 8) / 5 % 6, by omega, by omega, by omega⟩
              rw [na_4 he' hi', na_4 he' hi']
              by_cases hc : i' < mn g e' ∧ lf g e' i' = false
              · have hq : ((decide (e' < e) || decide (e' = e) && decide (i' < mn g e)) = true) = (decide (e' < e + 1) = true) := by
                  by_cases h1 : e' < e
                  · simp [h1]; omega
                  · by_cases h3 : e' = e
                    · subst h3; simp [hc.1]
                    · simp [h1, h3]; omega
                simp only [hq]
              · rw [if_neg (fun h => hc h.2), if_neg (fun h => hc h.2)]
            · rw [na_h hj, na_h hj]
          · rcases mny O he6 with ⟨q1, q2⟩ | ⟨q1, q2⟩
            · rw [q1, q2] at h; exact absurd (by decide) h
            · rw [q1] at h; exact absurd (nI_le (Nat.le_refl _) (by omega)) h
        | succ m ih2 =>
          intro i hi s2 f2 h2
          have hi6 : i < 6 := by omega
          have e2 : gi s2 178 (2 + e) = nI (mn g e) := by
            show s2.1 178 (2 + e) = _
            rw [h2, na_h (by omega)]
            rcases mny O he6 with ⟨q1, q2⟩ | ⟨q1, q2⟩
            · omega
            · exact q1
          have S2 : SM g s2 := by
            obtain ⟨a1, a2, a3, a4⟩ := S
            refine ⟨by rw [f2.2.1 17 (by decide)]; exact a1, by rw [f2.2.1 18 (by decide)]; exact a2, fun e i he hi => by rw [f2.1 183 (by decide) (by decide)]; exact a3 e i he hi, fun h => ?_⟩
            rw [f2.2.1 21 (by decide), f2.1 184 (by decide) (by decide)]
            exact a4 h
          rw [wX12_goNarrow_10, e1, ix_nI (by omega), e2]
          refine ⟨vp_in_nI (by omega) (by decide), fun h => ?_, fun _ => ?_⟩
          · rw [nI_leI (by omega) (by omega)] at h; omega
          · rw [m_isLeft O S2 he6 hi6, nI_1]
            simp only [bi_0]
            have hq : ∀ e' i', (e' = e ∧ i' = i) ∨ ((decide (e' < e) || decide (e' = e) && decide (i' < i + 1)) = (decide (e' < e) || decide (e' = e) && decide (i' < i))) := by
              intro e' i'
              by_cases h1 : e' = e
              · by_cases h3 : i' = i
                · exact Or.inl ⟨h1, h3⟩
                · refine Or.inr ?_
                  have : (i' < i + 1) = (i' < i) := by simp; omega
                  simp [this]
              · exact Or.inr (by simp [h1])
            cases hl : lf g e i with
            | true =>
              refine ⟨fun _ => ih2 (i + 1) (by omega) s2 f2 ?_, fun h => (by cases h)⟩
              rw [h2]
              funext j
              by_cases hj : 8 ≤ j ∧ j < 188 ∧ (j - 8) % 5 = 4
              · obtain ⟨e', i', he', hi', rfl⟩ : ∃ e i, e < 6 ∧ i < 6 ∧ j = 8 + 5 * (6 * e + i) + 4 := ⟨(j - 8) / 30, (j - 8) / 5 % 6, by omega, by omega, by omega⟩
                rw [na_4 he' hi', na_4 he' hi']
                rcases hq e' i' with ⟨rfl, rfl⟩ | hq
                · rw [if_neg (fun h => by rw [hl] at h; cases h.2.2), if_neg (fun h => by rw [hl] at h; cases h.2.2)]
                · simp only [hq]
              · rw [na_h hj, na_h hj]
            | false =>
              refine ⟨fun h => absurd rfl h, fun _ => ?_⟩
              unfold wpX12_place
              have e5 : 8 + 5 * (6 * nI e + nI i) + 4 = nI (8 + 5 * (6 * e + i) + 4) := by
                simp only [lit_i, nI_i, iI_add, iI_mul]
                congr 1
              dsimp only
              rw [e5, ix_nI (by omega)]
              refine ⟨vp_in_nI (by omega) (by decide), ih2 (i + 1) (by omega) _ (f2.tr (fm_wi (by decide) (by decide))) ?_⟩
              rw [wi_up, h2]
              funext j
              by_cases hj : 8 ≤ j ∧ j < 188 ∧ (j - 8) % 5 = 4
              · obtain ⟨e', i', he', hi', rfl⟩ : ∃ e i, e < 6 ∧ i < 6 ∧ j = 8 + 5 * (6 * e + i) + 4 := ⟨(j - 8) / 30, (j - 8) / 5 % 6, by omega, by omega, by omega⟩
                rw [na_4 he' hi']
                rcases hq e' i' with ⟨rfl, rfl⟩ | hq2
                · rw [up_at, if_pos ⟨by simp, by omega, hl⟩]
                · by_cases hee : e' = e ∧ i' = i
                  · obtain ⟨rfl, rfl⟩ := hee
                    rw [up_at, if_pos ⟨by simp, by omega, hl⟩]
                  · rw [up_ne _ _ (by omega), na_4 he' hi']
                    simp only [hq2]
              · rw [up_ne _ _ (by omega), na_h hj, na_h hj]
      refine inner (mn g e) 0 (by omega) s1 f ?_
      rw [h]
      congr 1
      funext e' i'
      simp
  refine ⟨7, Lp 6 0 rfl s fm.rf ?_⟩
  rw [M]
  funext j
  unfold naP
  rw [if_neg (fun h => by simp at h)]
theorem S_narrows (A : okA t L g us ks) (C : CI t L g us ks s) (M : MI t L g us ks s) (kk : KK t K) : wpX11_narrows s (fun r s1 => wpX12_narrows s1 (eqK K r)) := by
  have O := A.2.2.1.1
  have M0 : ∀ s1, MI t L g us ks s1 → (wi s1 177 5 0).1 178 = g := fun s1 h => by rw [wi_na _ _ _ _ (by decide)]; exact h.2.2.1
  have hb := nOut_le (g := g) 6
  unfold wpX11_narrows
  refine c_save O C.2.2.1 (fun s1 f1 R1 => ?_)
  have r1 : repC (s1.1 21) g := by rw [f1.1 21 rfl]; exact C.2.2.1
  have V1 : CV g s1 := C.2.2.2.1.cg (f1.1 0 rfl) (fun a h1 h2 => f1.1 a (by simp; omega))
  refine c_solved O r1 V1 (fun s2 f2 g2 v2 S2 => ?_)
  have r2 : repC (s2.1 (20 + 1)) g := by rw [f2.1 (20 + 1) rfl]; exact r1
  have P2 : PC us s2 := C.2.2.2.2.1.cg (by rw [f2.1 25 rfl, f1.1 25 rfl]) (fun a h1 h2 => by rw [f2.1 a (by unfold sD; simp; omega), f1.1 a (by simp; omega)])
  have f12 : fR uD s s2 := (f1.mono e24_u).tr (f2.mono sD_u)
  have g12 : ∀ j, j ≠ 13 → s2.1 0 j = s.1 0 j := fun j hj => by rw [g2 j hj, f1.1 0 rfl]
  -- refused
  have bad : ∀ (r : Int32) (s3 : gS), r < 0 → fR (fun c => c == 21) s2 s3 → repC (s3.1 21) g → (∀ s4, MI t L g us ks s4 → ∀ Q, qM L r s4 Q → wpX12_narrows s4 Q) → wpX11_recorded r s3 (fun r s1 => wpX12_narrows s1 (eqK K r)) := by
    intro r s3 hr f3 R3 hm
    have f4 : fR uD s s3 := f12.tr (f3.mono e21_u)
    have C3 : CI t L g us ks s3 := C.mut f4 (fun j hj => by rw [f3.1 0 rfl, g12 j hj]) R3 (CV1 (by rw [f3.1 0 rfl]; exact v2) (S2.cg (fun a h1 h2 => f3.1 a (by simp; omega)))) (P2.cg (f3.1 25 rfl) (fun a h1 h2 => f3.1 a (by simp; omega)))
    refine c_rec0 hr (hm s3 (M.cl (f4.cl uD_cl)) _ (fun s5 f5 R5 => ⟨fun _ => ?_, fun h => h rfl⟩))
    exact kk t L g us ks s5 (by omega) A (C3.mo (f5.mo (by decide))) ((M.cl (f4.cl uD_cl)).q f5 R5)
  refine c_keepOnly (by decide) O r2 S2 (fun h => ?_) (fun h s3 f3 R3 => ?_)
  · refine bad (-3) s2 (by decide) fR.rf r2 (fun s4 M4 Q k => ?_)
    unfold wpX12_narrows
    refine m_refNarrow (M0 s4 M4) O (fun _ s5 f5 => ?_) (fun h2 => absurd h h2)
    refine ⟨fun h => absurd h (by decide), fun _ => k s5 (m_th.tr (f5.mono (by decide) (by decide))) (M4.2.1.th.cg (f5.2.1 4 (by decide)) (f5.2.2.1 180 (by decide)))⟩
  · by_cases h0 : nOut g 6 = 0
    · rw [if_pos h0]
      rw [nOut_0 O h0] at R3
      refine bad (-2) s3 (by decide) f3 R3 (fun s4 M4 Q k => ?_)
      unfold wpX12_narrows
      refine m_refNarrow (M0 s4 M4) O (fun h2 => absurd h2 h) (fun _ s5 f5 S5 => ?_)
      rw [if_pos h0]
      refine ⟨fun h => absurd h (by decide), fun _ => k s5 (m_th.tr (f5.mono (by decide) (by decide))) (M4.2.1.th.cg (f5.2.1 4 (by decide)) (f5.2.2.1 180 (by decide)))⟩
    · rw [if_neg h0]
      have f4 : fR uD s s3 := f12.tr (f3.mono e21_u)
      refine c_recorded (us := us) (g := g) (nI_nn (by omega)) O A.2.2.2.1 A.2.2.2.2.1 (P2.cg (f3.1 25 rfl) (fun a h1 h2 => f3.1 a (by simp; omega))) (by rw [f3.1 24 rfl, f2.1 24 rfl]; exact R1) (fun s5 f5 g5 v5 P5 => ?_)
      have f6 : fR uD s s5 := f4.tr (f5.mono pD_u)
      have C5 : CI t L (naG g) (pushU us g) ks s5 := C.mut f6 (fun j hj => by rw [g5 j hj, f3.1 0 rfl, g12 j hj]) (by rw [f5.1 21 rfl]; exact R3) (Or.inl v5) P5
      have M5 := M.cl (f6.cl uD_cl)
      unfold wpX12_narrows
      refine m_refNarrow (M0 s5 M5) O (fun h2 => absurd h2 h) (fun _ s6 f7 S7 => ?_)
      rw [if_neg h0]
      refine ⟨fun _ => ?_, fun h => absurd (nI_pos' (by omega)) h⟩
      refine m_change (us := us) (g := g) A.2.2.2.1 ((M5.2.2.2.1.th).cg (f7.2.1 26 (by decide)) (f7.1 187 (by decide) (by decide))) (by rw [f7.1 178 (by decide) (by decide)]; exact M0 s5 M5) (fun s7 f8 P8 => ?_)
      have S8 : SM g s7 := by
        obtain ⟨a1, a2, a3, a4⟩ := S7
        refine ⟨by rw [f8.2.1 17 (by decide)]; exact a1, by rw [f8.2.1 18 (by decide)]; exact a2, fun e i he hi => by rw [f8.1 183 (by decide) (by decide)]; exact a3 e i he hi, fun h => ?_⟩
        rw [f8.2.1 21 (by decide), f8.1 184 (by decide) (by decide)]
        exact a4 h
      refine m_goNarrow (g := g) (by rw [f8.1 178 (by decide) (by decide), f7.1 178 (by decide) (by decide)]; exact M0 s5 M5) O S8 (fun s8 f9 h9 => ⟨fun _ => ?_, fun h => h rfl⟩)
      have f10 : fm (178 :: 187 :: mD) (26 :: mF) s5 s8 := (fm_wf (by decide)).tr ((f7.mono (by decide) (by decide)).tr ((f8.mono (by decide) (by decide)).tr (f9.mono (by decide) (by decide))))
      refine kk t L (naG g) (pushU us g) ks s8 (by omega) (A.mut (ok_na A.2.2.1)) (C5.mo (f10.mo (by decide))) (M5.mut f10 h9 (P8.cg (f9.2.1 26 (by decide)) (f9.1 187 (by decide) (by decide))) ?_)
      exact ((M5.2.1.th.cg (f7.2.1 4 (by decide)) (f7.2.2.1 180 (by decide))).cg (f8.2.1 4 (by decide)) (f8.2.2.1 180 (by decide))).cg (f9.2.1 4 (by decide)) (f9.2.2.1 180 (by decide))
end MUT
