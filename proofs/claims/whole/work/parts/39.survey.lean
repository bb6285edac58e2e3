/-! the reference's survey, whole -/
section SURVEY
variable {N : Nat} {s : gS} {g : Nat → Int32} {Q : gS → Prop}
theorem wth_bd {q : Nat → Int32} (O : okS N g) (V : vq g 6 q) : ∀ n, n ≤ 6 → (0 ≤ wth g q n ∧ wth g q n ≤ 3 * n) ∧ ((∃ e, e < n ∧ tl g e = true) → 1 ≤ wth g q n) := by
  intro n
  induction n with
  | zero => intro _; simp [wth]
  | succ n ih =>
    intro hn
    obtain ⟨⟨h1, h2⟩, h3⟩ := ih (by omega)
    unfold wth
    cases ht : tl g n with
    | false =>
      simp
      refine ⟨⟨h1, by omega⟩, fun e he h => h3 ⟨e, ?_, h⟩⟩
      by_cases h4 : e = n
      · subst h4; rw [ht] at h; cases h
      · omega
    | true =>
      obtain ⟨i, hi, hq⟩ := (V n).1 ⟨by omega, ht⟩
      have hi2 := inn_lt hi
      have hm := (O.2.2.2.1 n (by omega)).2
      obtain ⟨-, -, -, -, -, h5, h6, -⟩ := O.2.2.2.2 n (by omega) i hi2
      rw [hq, ix_nI (by omega)]
      simp
      exact ⟨⟨by omega, by omega⟩, fun _ _ _ => by omega⟩
theorem wth_1 {q : Nat → Int32} (O : okS N g) (h : q ∈ allP g) : 1 ≤ wth g q 6 ∧ wth g q 6 ≤ 18 := by
  obtain ⟨-, V, ha⟩ := allP_ne h
  have := wth_bd O V 6 (Nat.le_refl _)
  exact ⟨this.2 (any_iff.mp ha), by have := this.1.2; omega⟩
theorem fold_bd (L : List (Nat → Int32)) : ∀ b : Int × (Nat → Int32), (∀ q, q ∈ L → 0 ≤ wth g q 6 ∧ wth g q 6 ≤ 18) → 0 ≤ b.1 ∧ b.1 ≤ 18 → 0 ≤ (L.foldl (bstep g) b).1 ∧ (L.foldl (bstep g) b).1 ≤ 18 := by
  induction L with
  | nil => intro b _ h; exact h
  | cons q L ih =>
    intro b h hb
    refine ih _ (fun q hq => h q (List.mem_cons_of_mem _ hq)) ?_
    have := h q List.mem_cons_self
    unfold bstep
    split
    · exact this
    · exact hb
theorem m_copyBest {q : Nat → Int32} : ∀ n e, e + n = 6 → ∀ s : gS, pk s q → (∀ k, k < e → s.1 184 k = q k) → (∀ s', fm [184] [] s s' → (∀ k, k < 6 → s'.1 184 k = q k) → Q s') → wX12_noteChoice_74 Q (n + 1) (nI e) s := by
  intro n
  induction n with
  | zero =>
    intro e he s P B k
    have : e = 6 := by omega
    subst this
    rw [wX12_noteChoice_74]
    exact ⟨fun _ => k s fm.rf B, fun h => absurd (by decide) h⟩
  | succ n ih =>
    intro e he s P B k
    have he6 : e < 6 := by omega
    rw [wX12_noteChoice_74, nI_1]
    simp only [ge6 he6, vp_in_nI he6 (show 6 < 2 ^ 31 by decide), false_implies, true_and, not_false_eq_true, true_implies, ix_nI (show e < 2 ^ 31 by omega)]
    refine ih (e + 1) (by omega) _ (fun k hk => by rw [wi_na _ _ _ _ (by decide)]; exact P k hk) (fun k hk => ?_) (fun s' hs => k s' (fm.tr (fm_wi (by decide) (by decide)) hs))
    by_cases h : k = e
    · subst h
      rw [wi_at]
      exact P k he6
    · rw [wi_ne _ _ _ _ h]
      exact B k (by omega)
theorem m_noteL {q : Nat → Int32} (O : okS N g) (V : vq g 6 q) : ∀ n e, e + n = 6 → ∀ s : gS, s.1 178 = g → pk s q → (∀ s', fm [183, 184] [21] s s' → (∀ e' i, e' < 6 → i < 6 → s'.1 183 (6 * e' + i) = s.1 183 (6 * e' + i) + (if e ≤ e' ∧ tl g e' = true ∧ q e' = nI i then 1 else 0)) → (if s.1 177 21 < iI (wth g q 6) then s'.1 177 21 = iI (wth g q 6) ∧ ∀ k, k < 6 → s'.1 184 k = q k else s'.1 177 21 = s.1 177 21 ∧ s'.1 184 = s.1 184) → Q s') → wX12_noteChoice_12 Q (n + 1) (nI e) s := by
  intro n
  induction n with
  | zero =>
    intro e he s M P k
    have : e = 6 := by omega
    subst this
    rw [wX12_noteChoice_12]
    refine ⟨fun _ => m_worthNow M O P V ⟨fun h => ?_, fun h => ?_⟩, fun h => absurd (by decide) h⟩
    · refine m_worthNow M O P V ⟨7, ?_⟩
      have h' : s.1 177 21 < iI (wth g q 6) := h
      refine m_copyBest (q := q) 6 0 rfl _ (fun e he => by rw [wi_na _ _ _ _ (by decide)]; exact P e he) (fun k hk => by omega) (fun s' hs hb => k s' (fm.tr (fm_wf (by decide)) (hs.mono (by decide) (by decide))) (fun e' i h1 h2 => ?_) ?_)
      · rw [hs.1 183 (by decide) (by decide), wi_na _ _ _ _ (by decide), if_neg (by omega)]
        exact (Int32.add_zero _).symm
      · rw [if_pos h', hs.2.1 21 (by decide), wi_at]
        exact ⟨rfl, hb⟩
    · have h' : ¬ s.1 177 21 < iI (wth g q 6) := h
      refine k s fm.rf (fun e' i h1 h2 => ?_) ?_
      · rw [if_neg (by omega)]
        exact (Int32.add_zero _).symm
      · rw [if_neg h']
        exact ⟨rfl, rfl⟩
  | succ n ih =>
    intro e he s M P k
    have he6 : e < 6 := by omega
    rw [wX12_noteChoice_12, m_isTold M he6, nI_1]
    simp only [ge6 he6, bi_0, false_implies, true_and, not_false_eq_true, true_implies]
    cases ht : tl g e with
    | false =>
      refine ⟨fun _ => ih (e + 1) (by omega) s M P (fun s' hs h1 h2 => k s' hs (fun e' i a b => ?_) h2), fun h => absurd rfl h⟩
      rw [h1 e' i a b]
      congr 1
      by_cases h : e' = e
      · subst h
        simp [ht]
      · have : (e + 1 ≤ e') = (e ≤ e') := by simp; omega
        simp only [this]
    | true =>
      refine ⟨fun h => (by cases h), fun _ => ⟨vp_in_nI he6 (by decide), ?_⟩⟩
      obtain ⟨i0, hi, hq⟩ := (V e).1 ⟨he6, ht⟩
      have hi2 := inn_lt hi
      have hm := (O.2.2.2.1 e he6).2
      have e1 : 6 * nI e + gi s 182 (ix (nI e)) = nI (6 * e + i0) := by
        rw [ix_nI (by omega), show gi s 182 e = nI i0 by rw [← hq, ← P e he6]; rfl]
        simp only [lit_i, nI_i, iI_add, iI_mul]
        congr 1
      rw [e1]
      refine ⟨vp_in_nI (by omega) (by decide), vp_in_nI (by omega) (by decide), ?_⟩
      rw [ix_nI (by omega)]
      refine ih (e + 1) (by omega) _ (by rw [wi_na _ _ _ _ (by decide)]; exact M) (fun k hk => by rw [wi_na _ _ _ _ (by decide)]; exact P k hk) (fun s' hs h1 h2 => k s' (fm.tr (fm_wi (by decide) (by decide)) hs) (fun e' i a b => ?_) ?_)
      · rw [h1 e' i a b]
        by_cases h : e' = e
        · subst h
          by_cases h3 : i = i0
          · subst h3
            rw [wi_at, if_neg (by omega), if_pos ⟨Nat.le_refl _, ht, hq⟩]
            exact Int32.add_zero _
          · rw [wi_ne _ _ _ _ (by omega)]
            have : ¬ nI i0 = nI i := by
              rw [nI_eq (by omega) (by omega)]
              omega
            simp [ht, hq, this]
        · rw [wi_ne _ _ _ _ (by omega)]
          congr 1
          have : (e + 1 ≤ e') = (e ≤ e') := by simp; omega
          simp only [this]
      · rw [wi_na _ _ _ _ (by decide), wi_na _ _ _ _ (by decide)] at h2
        exact h2
def gd (g : Nat → Int32) (q : Nat → Int32) : Bool := bb g q == 0
def AC (g : Nat → Int32) (d : List (Nat → Int32)) (s : gS) : Prop := s.1 177 17 = nI (d.filter (gd g)).length ∧ s.1 177 18 = nI d.length ∧ (∀ e i, e < 6 → i < 6 → s.1 183 (6 * e + i) = nI ((d.filter (gd g)).countP fun q => tl g e && q e == nI i)) ∧ (d.filter (gd g) = [] → s.1 177 21 = -1) ∧ (d.filter (gd g) ≠ [] → s.1 177 21 = iI ((d.filter (gd g)).foldl (bstep g) (0, fun _ => -1)).1 ∧ ∀ e, e < 6 → s.1 184 e = ((d.filter (gd g)).foldl (bstep g) (0, fun _ => -1)).2 e)
theorem m_step (O : okS N g) (hN : N ≤ 10) {q : Nat → Int32} {d : List (Nat → Int32)} (hq : q ∈ allP g) (hd : ∀ q, q ∈ d → q ∈ allP g) (M : s.1 178 = g) (P : pk s q) (A : AC g d s) (k : ∀ s', fm [182, 183, 184] [17, 18, 21] s s' → s'.1 178 = g → pk s' q → AC g (d ++ [q]) s' → Q s') : wpX12_brokenNow (wi s 177 18 ((gi s 177 18) + 1)) (fun r3 s3 => (¬ r3 = 0 → Q s3) ∧ (r3 = 0 → wpX12_noteChoice s3 (fun s4 => Q s4))) := by
  obtain ⟨-, V, -⟩ := allP_ne hq
  obtain ⟨w1, w2⟩ := wth_1 O hq
  obtain ⟨A1, A2, A3, A4, A5⟩ := A
  have hno := O.2.1.2
  have M1 : (wi s 177 18 ((gi s 177 18) + 1)).1 178 = g := by rw [wi_na _ _ _ _ (by decide)]; exact M
  have P1 : pk (wi s 177 18 ((gi s 177 18) + 1)) q := fun e he => by rw [wi_na _ _ _ _ (by decide)]; exact P e he
  have hlen : (d ++ [q]).length = d.length + 1 := by simp
  have A2' : (wi s 177 18 ((gi s 177 18) + 1)).1 177 18 = nI (d ++ [q]).length := by
    rw [wi_at, hlen, show gi s 177 18 = nI d.length from A2]
    exact nI_1 _
  refine m_brokenNow M1 O hN P1 V ?_
  have hb : bb g q < 2 ^ 31 := by
    have h1 := bts_lt (no g) (brk g q)
    have h2 : 2 ^ no g ≤ 2 ^ 10 := Nat.pow_le_pow_right (by decide) (by omega)
    unfold bb
    omega
  rw [show (0 : Int32) = nI 0 from rfl, nI_eq hb (by decide)]
  refine ⟨fun h => ?_, fun h => ?_⟩
  · have hg : gd g q = false := by simp [gd, h]
    have hf : (d ++ [q]).filter (gd g) = d.filter (gd g) := by simp [List.filter_append, hg]
    refine k _ (fm_wf (by decide)) M1 P1 ⟨?_, A2', ?_, ?_, ?_⟩
    · rw [hf, wi_ne _ _ _ _ (by decide)]; exact A1
    · rw [hf, wi_na _ _ _ _ (by decide)]; exact A3
    · rw [hf, wi_ne _ _ _ _ (by decide)]; exact A4
    · rw [hf, wi_ne _ _ _ _ (by decide), wi_na _ _ _ _ (by decide)]; exact A5
  · have hg : gd g q = true := by simp [gd, h]
    have hf : (d ++ [q]).filter (gd g) = d.filter (gd g) ++ [q] := by simp [List.filter_append, hg]
    refine ⟨7, m_noteL (q := q) O V 6 0 rfl _ (by rw [wi_na _ _ _ _ (by decide)]; exact M1) (fun e he => by rw [wi_na _ _ _ _ (by decide)]; exact P1 e he) (fun s' hs h1 h2 => ?_)⟩
    have f0 : fm [182, 183, 184] [17, 18, 21] s s' := fm.tr (fm_wf (by decide)) (fm.tr (fm_wf (by decide)) (hs.mono (by decide) (by decide)))
    refine k s' f0 (by rw [f0.1 178 (by decide) (by decide)]; exact M) (fun e he => ?_) ⟨?_, ?_, ?_, ?_, ?_⟩
    · rw [hs.1 182 (by decide) (by decide), wi_na _ _ _ _ (by decide)]
      exact P1 e he
    · rw [hf, hs.2.1 17 (by decide), wi_at, show gi (wi s 177 18 ((gi s 177 18) + 1)) 177 17 = nI (d.filter (gd g)).length from by
        show (wi s 177 18 ((gi s 177 18) + 1)).1 177 17 = _
        rw [wi_ne _ _ _ _ (by decide)]; exact A1, nI_1]
      simp
    · rw [hs.2.1 18 (by decide), wi_ne _ _ _ _ (by decide)]
      exact A2'
    · intro e i he hi
      rw [h1 e i he hi, wi_na _ _ _ _ (by decide), wi_na _ _ _ _ (by decide), A3 e i he hi, hf, List.countP_append]
      by_cases hc : tl g e = true ∧ q e = nI i
      · simp [hc, nI_1]
      · have : (tl g e && q e == nI i) = false := by
          cases ht : tl g e <;> simp [ht] at hc ⊢
          exact hc
        rw [if_neg (fun h => hc h.2)]
        simp [this]
    · intro h; rw [hf] at h; simp at h
    · intro _
      rw [wi_ne _ _ _ _ (by decide), wi_ne _ _ _ _ (by decide), wi_na _ _ _ _ (by decide), wi_na _ _ _ _ (by decide)] at h2
      rw [hf, List.foldl_append]
      simp only [List.foldl_cons, List.foldl_nil]
      by_cases hd0 : d.filter (gd g) = []
      · rw [A4 hd0, show (-1 : Int32) = iI (-1) from rfl] at h2
        simp only [iI_lt (show -2147483648 ≤ (-1 : Int) by decide) (show (-1 : Int) ≤ 2147483647 by decide) (show -2147483648 ≤ wth g q 6 by omega) (show wth g q 6 ≤ 2147483647 by omega)] at h2
        rw [if_pos (by omega)] at h2
        have hb0 : bstep g (0, fun _ => -1) q = (wth g q 6, q) := by
          unfold bstep
          rw [if_pos (show (0 : Int) < wth g q 6 by omega)]
        rw [hd0, List.foldl_nil, hb0]
        exact h2
      · obtain ⟨a1, a2⟩ := A5 hd0
        have hbd := fold_bd (g := g) (d.filter (gd g)) (0, fun _ => -1) (fun q hq => by
          have := wth_1 O (hd q (List.mem_filter.mp hq).1)
          omega) (by simp)
        generalize hG : (d.filter (gd g)).foldl (bstep g) (0, fun _ => -1) = G at *
        rw [a1] at h2
        simp only [iI_lt (show -2147483648 ≤ G.1 by omega) (show G.1 ≤ 2147483647 by omega) (show -2147483648 ≤ wth g q 6 by omega) (show wth g q 6 ≤ 2147483647 by omega)] at h2
        unfold bstep
        by_cases hlt : G.1 < wth g q 6
        · rw [if_pos hlt] at h2 ⊢
          exact h2
        · rw [if_neg hlt] at h2 ⊢
          exact ⟨h2.1, fun e he => by rw [h2.2]; exact a2 e he⟩
theorem m_surveyL (O : okS N g) (hN : N ≤ 10) : ∀ (l : List (Nat → Int32)) (q : Nat → Int32) (d : List (Nat → Int32)), allP g = d ++ q :: l → chn (nxN g 6) (q :: l) → ∀ s : gS, s.1 178 = g → pk s q → AC g d s → (∀ s', fm [182, 183, 184] [17, 18, 21] s s' → AC g (allP g) s' → Q s') → wX12_survey_44 Q (l.length + 2) 1 s := by
  intro l
  induction l with
  | nil =>
    intro q d hd C s M P A k
    have hq : q ∈ allP g := by rw [hd]; simp
    show (1 = 0 → Q s) ∧ (¬ (1 = 0) → wpX12_brokenNow (wi s 177 18 ((gi s 177 18) + 1)) (fun r3 s3 => (¬ r3 = 0 → wX12_survey_69 Q (fun y1 s => wX12_survey_44 Q 1 y1 s) s3) ∧ (r3 = 0 → wpX12_noteChoice s3 (fun s4 => wX12_survey_69 Q (fun y1 s => wX12_survey_44 Q 1 y1 s) s4))))
    refine ⟨fun h => absurd h (by decide), fun _ => ?_⟩
    refine m_step O hN hq (fun q h => by rw [hd]; simp [h]) M P A (fun s2 f2 M2 P2 A2 => ?_)
    refine m_next M2 O hq P2 C (fun _ s3 f3 => ?_) (fun q' t' h => by cases h)
    show wX12_survey_44 Q (0 + 1) 0 s3
    rw [wX12_survey_44]
    refine ⟨fun _ => k s3 (fm.tr f2 (f3.mono (by decide) (by decide))) ?_, fun h => absurd rfl h⟩
    rw [hd]
    obtain ⟨a1, a2, a3, a4, a5⟩ := A2
    refine ⟨?_, ?_, ?_, ?_, ?_⟩
    · rw [f3.2.1 17 (by decide)]; exact a1
    · rw [f3.2.1 18 (by decide)]; exact a2
    · rw [f3.1 183 (by decide) (by decide)]; exact a3
    · rw [f3.2.1 21 (by decide)]; exact a4
    · rw [f3.2.1 21 (by decide), f3.1 184 (by decide) (by decide)]; exact a5
  | cons q' l ih =>
    intro q d hd C s M P A k
    have hq : q ∈ allP g := by rw [hd]; simp
    show wX12_survey_44 Q ((l.length + 2) + 1) 1 s
    rw [wX12_survey_44]
    refine ⟨fun h => absurd h (by decide), fun _ => ?_⟩
    refine m_step O hN hq (fun q h => by rw [hd]; simp [h]) M P A (fun s2 f2 M2 P2 A2 => ?_)
    refine m_next M2 O hq P2 C (fun h => by cases h) (fun q'' t' h C2 s3 f3 P3 => ?_)
    cases h
    refine ih q' (d ++ [q]) (by rw [hd]; simp) C2 s3 (by rw [f3.1 178 (by decide) (by decide)]; exact M2) P3 ?_ (fun s' hs hA => k s' (fm.tr f2 (fm.tr (f3.mono (by decide) (by decide)) hs)) hA)
    obtain ⟨a1, a2, a3, a4, a5⟩ := A2
    refine ⟨?_, ?_, ?_, ?_, ?_⟩
    · rw [f3.2.1 17 (by decide)]; exact a1
    · rw [f3.2.1 18 (by decide)]; exact a2
    · rw [f3.1 183 (by decide) (by decide)]; exact a3
    · rw [f3.2.1 21 (by decide)]; exact a4
    · rw [f3.2.1 21 (by decide), f3.1 184 (by decide) (by decide)]; exact a5
theorem m_zero : ∀ n i, i + n = 36 → ∀ s : gS, (∀ k, k < i → s.1 183 k = 0) → (∀ s', fm [183] [] s s' → (∀ k, k < 36 → s'.1 183 k = 0) → wpX12_startPicks s' (fun r1 s1 => ∃ n44, wX12_survey_44 Q n44 r1 s1)) → wX12_survey_17 Q (n + 1) (nI i) s := by
  intro n
  induction n with
  | zero =>
    intro i hi s Z k
    have : i = 36 := by omega
    subst this
    rw [wX12_survey_17]
    exact ⟨fun _ => k s fm.rf Z, fun h => absurd (by decide) h⟩
  | succ n ih =>
    intro i hi s Z k
    have hle : (36 ≤ nI i) = False := by
      rw [show (36 : Int32) = nI 36 from rfl, nI_leI (by decide) (by omega)]
      simp; omega
    rw [wX12_survey_17, nI_1]
    simp only [hle, vp_in_nI (show i < 36 by omega) (show 36 < 2 ^ 31 by decide), false_implies, true_and, not_false_eq_true, true_implies, ix_nI (show i < 2 ^ 31 by omega)]
    refine ih (i + 1) (by omega) _ (fun k hk => ?_) (fun s' hs => k s' (fm.tr (fm_wi (by decide) (by decide)) hs))
    by_cases h : k = i
    · subst h; rw [wi_at]
    · rw [wi_ne _ _ _ _ h]; exact Z k (by omega)
/-- what survey leaves -/
def SM (g : Nat → Int32) (s : gS) : Prop := s.1 177 17 = nI (chs g).length ∧ s.1 177 18 = nI (allP g).length ∧ (∀ e i, e < 6 → i < 6 → s.1 183 (6 * e + i) = nI (cw g e i)) ∧ (chs g ≠ [] → s.1 177 21 = iI (bst g).1 ∧ ∀ e, e < 6 → s.1 184 e = (bst g).2 e)
theorem m_survey (M : s.1 178 = g) (O : okS N g) (hN : N ≤ 10) (k : ∀ s', fm [182, 183, 184] [17, 18, 21] s s' → SM g s' → Q s') : wpX12_survey s Q := by
  refine ⟨37, m_zero 36 0 rfl _ (fun k h => by omega) (fun s1 f1 Z => ?_)⟩
  have f0 : fm [182, 183, 184] [17, 18, 21] s s1 := fm.tr (fm_wf (by decide)) (fm.tr (fm_wf (by decide)) (fm.tr (fm_wf (by decide)) (f1.mono (by decide) (by decide))))
  have M1 : s1.1 178 = g := by rw [f0.1 178 (by decide) (by decide)]; exact M
  have b17 : s1.1 177 17 = 0 := by rw [f1.2.1 17 (by decide), wi_ne _ _ _ _ (by decide), wi_ne _ _ _ _ (by decide), wi_at]
  have b18 : s1.1 177 18 = 0 := by rw [f1.2.1 18 (by decide), wi_ne _ _ _ _ (by decide), wi_at]
  have b21 : s1.1 177 21 = -1 := by rw [f1.2.1 21 (by decide), wi_at]
  refine m_start M1 O (fun h s2 f2 => ⟨1, ?_⟩) (fun q t h C s2 f2 P2 => ⟨t.length + 2, ?_⟩)
  · rw [wX12_survey_44]
    refine ⟨fun _ => k s2 (fm.tr f0 (f2.mono (by decide) (by decide))) ⟨?_, ?_, ?_, ?_⟩, fun h => absurd rfl h⟩
    · rw [f2.2.1 17 (by decide), b17]; simp [chs, h]; rfl
    · rw [f2.2.1 18 (by decide), b18, h]; rfl
    · intro e i he hi
      rw [f2.1 183 (by decide) (by decide), Z _ (by omega)]
      simp [cw, chs, h]; rfl
    · intro h2; exact absurd (by simp [chs, h]) h2
  · refine m_surveyL O hN t q [] h C s2 (by rw [f2.1 178 (by decide) (by decide)]; exact M1) P2 ⟨?_, ?_, ?_, ?_, ?_⟩ (fun s' hs hA => k s' (fm.tr f0 (fm.tr (f2.mono (by decide) (by decide)) hs)) ?_)
    · rw [f2.2.1 17 (by decide), b17]; rfl
    · rw [f2.2.1 18 (by decide), b18]; rfl
    · intro e i he hi
      rw [f2.1 183 (by decide) (by decide), Z _ (by omega)]
      rfl
    · intro _; rw [f2.2.1 21 (by decide), b21]
    · intro h2; exact absurd rfl h2
    · obtain ⟨a1, a2, a3, a4, a5⟩ := hA
      exact ⟨a1, a2, a3, a5⟩
end SURVEY
