/-! other: the calls -/
section OTHER
variable {t : List Nat} {L : List Int32} {g g' : Sy} {us us' : List Sy} {ks : Nat → Option Sy} {s s' : gS} {K : gS → Prop} {N : Nat}
theorem iI_m1 {z : Int} (h0 : 0 ≤ z) (h1 : z ≤ 2147483647) : ¬ iI z = -1 := by
  show ¬ iI z = iI (-1)
  rw [iI_eq (by omega) h1 (by decide) (by decide)]
  omega
theorem ot_bst (U : okU g) : bst (otG g 6) = (chs (otG g 6)).foldl (bstep g) (0, fun _ => -1) := fold_cg _ _ (fun q hq => ot_wth U (by rw [ot_chs U] at hq; exact (List.mem_filter.mp hq).1))
theorem m_isBest {q : Nat → Int32} {Q : Int32 → gS → Prop} (P : pk s q) (B : ∀ e, e < 6 → s.1 184 e = (bst g).2 e) (k : Q (bi (isBs g q)) s) : wpX12_isBest s Q := by
  have Lp : ∀ n e, e + n = 6 → (∀ j, j < e → q j = (bst g).2 j) → wX12_isBest_2 Q (n + 1) (nI e) s := by
    intro n
    induction n with
    | zero =>
      intro e he h
      have : e = 6 := by omega
      subst this
      rw [wX12_isBest_2]
      refine ⟨fun _ => ?_, fun h => absurd (by decide) h⟩
      have : isBs g q = true := List.all_eq_true.mpr (fun e he => by simp [h e (List.mem_range.mp he)])
      rw [this] at k
      exact k
    | succ n ih =>
      intro e he h
      have he6 : e < 6 := by omega
      rw [wX12_isBest_2, nI_1]
      simp only [ge6 he6, vp_in_nI he6 (show 6 < 2 ^ 31 by decide), ix_nI (show e < 2 ^ 31 by omega), false_implies, true_and, not_false_eq_true, true_implies]
      rw [show gi s 182 e = q e from P e he6, show gi s 184 e = (bst g).2 e from B e he6]
      refine ⟨fun h2 => ih (e + 1) (by omega) (fun j hj => ?_), fun h2 => ?_⟩
      · by_cases hje : j = e
        · subst hje; exact h2
        · exact h j (by omega)
      · have : isBs g q = false := by
          cases hb : isBs g q with
          | false => rfl
          | true =>
            have := List.all_eq_true.mp hb e (List.mem_range.mpr he6)
            exact absurd (by simpa using this) h2
        rw [this] at k
        exact k
  exact ⟨7, Lp 6 0 rfl (fun j hj => by omega)⟩
theorem m_isOther {q : Nat → Int32} {Q : Int32 → gS → Prop} (O : okS 10 g) (S : ∀ e i, e < 6 → i < 6 → s.1 183 (6 * e + i) = nI (cw g e i)) (P : pk s q) (B : ∀ e, e < 6 → s.1 184 e = (bst g).2 e) (k : Q (bi (isOt g q)) s) : wpX12_isOther s Q := by
  have Lp : ∀ n e, e + n = 6 → (∀ j, j < e → (opq g j && q j == (bst g).2 j) = false) → wX12_isOther_2 Q (n + 1) (nI e) s := by
    intro n
    induction n with
    | zero =>
      intro e he h
      have : e = 6 := by omega
      subst this
      rw [wX12_isOther_2]
      refine ⟨fun _ => ?_, fun h => absurd (by decide) h⟩
      have : isOt g q = true := List.all_eq_true.mpr (fun e he => by rw [h e (List.mem_range.mp he)]; rfl)
      rw [this] at k
      exact k
    | succ n ih =>
      intro e he h
      have he6 : e < 6 := by omega
      have next : (opq g e && q e == (bst g).2 e) = false → wX12_isOther_2 Q (n + 1) (nI (e + 1)) s := fun h2 => ih (e + 1) (by omega) (fun j hj => by
        by_cases hje : j = e
        · subst hje; exact h2
        · exact h j (by omega))
      rw [wX12_isOther_2, nI_1]
      refine ⟨fun h => absurd h (by rw [ge6 he6]; exact id), fun _ => m_leftManyC O S he6 ?_⟩
      rw [cnt_1 (by decide)]
      refine ⟨fun h2 => next ?_, fun h2 => ⟨vp_in_nI he6 (by decide), vp_in_nI he6 (by decide), ?_⟩⟩
      · have : opq g e = false := by unfold opq; simp; omega
        rw [this]; rfl
      · have ho : opq g e = true := by unfold opq; simp; omega
        rw [ix_nI (by omega), show gi s 182 e = q e from P e he6, show gi s 184 e = (bst g).2 e from B e he6]
        refine ⟨fun h3 => next ?_, fun h3 => ?_⟩
        · have : (q e == (bst g).2 e) = false := by simpa using h3
          rw [this, Bool.and_false]
        · have : isOt g q = false := by
            cases hb : isOt g q with
            | false => rfl
            | true =>
              have := List.all_eq_true.mp hb e (List.mem_range.mpr he6)
              rw [ho, h3] at this
              simp at this
          rw [this] at k
          exact k
  exact ⟨7, Lp 6 0 rfl (fun j hj => by omega)⟩
/-- worth so far: -1 where there is none -/
def oW (g : Sy) (d : List (Nat → Int32)) : Int := if d.filter (gO g) = [] then -1 else ((d.filter (gO g)).foldl (bstep g) (0, fun _ => -1)).1
def oS (g : Sy) (d : List (Nat → Int32)) (s : gS) : Prop := d.filter (gO g) ≠ [] → ∀ e, e < 6 → s.1 185 e = ((d.filter (gO g)).foldl (bstep g) (0, fun _ => -1)).2 e
theorem m_o66 {Q : Int32 → gS → Prop} {k90 : Int32 → gS → Prop} {y1 : Int32} {q : Nat → Int32} : ∀ n e, e + n = 6 → ∀ s : gS, pk s q → (∀ j, j < e → s.1 185 j = q j) → (∀ s', fm [185] [] s s' → (∀ j, j < 6 → s'.1 185 j = q j) → k90 y1 s') → wX12_other_66 Q k90 (n + 1) y1 (nI e) s := by
  intro n
  induction n with
  | zero =>
    intro e he s P B k
    have : e = 6 := by omega
    subst this
    rw [wX12_other_66]
    exact ⟨fun _ => k s fm.rf B, fun h => absurd (by decide) h⟩
  | succ n ih =>
    intro e he s P B k
    have he6 : e < 6 := by omega
    rw [wX12_other_66, nI_1]
    simp only [ge6 he6, vp_in_nI he6 (show 6 < 2 ^ 31 by decide), false_implies, true_and, not_false_eq_true, true_implies, ix_nI (show e < 2 ^ 31 by omega)]
    refine ih (e + 1) (by omega) _ (fun k hk => by rw [wi_na _ _ _ _ (by decide)]; exact P k hk) (fun k hk => ?_) (fun s' hs => k s' (fm.tr (fm_wi (by decide) (by decide)) hs))
    by_cases h : k = e
    · subst h
      rw [wi_at]
      exact P k he6
    · rw [wi_ne _ _ _ _ h]
      exact B k (by omega)
theorem S_other (A : okA t L g us ks) (C : CI t L g us ks s) (M : MI t L g us ks s) (kk : KK t K) : wpX11_other s (fun r s1 => wpX12_other s1 (eqK K r)) := by
  have U := A.2.2.1
  have O := U.1
  have hl := chs_le O
  obtain ⟨UH, hin⟩ := ot_ok U 6 (Nat.le_refl _)
  generalize hF : (allP g).filter (gO g) = F
  have hFe := gO_eq U
  rw [hF] at hFe
  have hFw : ∀ q, q ∈ F → q ∈ allP g := fun q hq => by rw [← hF] at hq; exact (List.mem_filter.mp hq).1
  refine S_q (L' := if F = [] then L else six (F.foldl (bstep g) (0, fun _ => -1)).2) (r := if F = [] then -2 else iI (F.foldl (bstep g) (0, fun _ => -1)).1) (WC := wpX11_other s) (WM := wpX12_other) A C M (by split; exact A.2.1; simp [six]) kk (fun Q k => ?_) (fun s1 M1 Q k => ?_)
  · refine c_solved O C.2.2.1 C.2.2.2.1 (fun s1 f1 g1 v1 S1 => ?_)
    refine c_load O (by rw [f1.1 21 rfl]; exact C.2.2.1) (fun s2 f2 R2 => ⟨7, ?_⟩)
    have S2 : SC 38 g s2 := S1.cg (fun a h1 h2 => f2.1 a (by simp; omega))
    have R0 : RC L s2 := by
      have := sD_r f1 C.2.1
      exact ⟨by rw [f2.1 18 rfl]; exact this.1, this.2.1, fun i hi => by rw [f2.1 19 rfl]; exact this.2.2 i hi⟩
    have Lp : ∀ n e, e + n = 6 → ∀ s3, fR (fun a => a == 23) s2 s3 → repC (s3.1 (22 + 1)) (otG g e) → wX11_other_23 Q (n + 1) (bi (anyO g e)) (nI e) s3 := by
      intro n
      induction n with
      | zero =>
        intro e he s3 f3 R3
        have : e = 6 := by omega
        subst this
        have fq : fR qD s s3 := (f1.mono sD_q).tr (((f2.mono e23_t).tr (f3.mono e23_t)).mono tD_q)
        have gq : ∀ j, j ≠ 13 → s3.1 0 j = s.1 0 j := fun j hj => by rw [f3.1 0 rfl, f2.1 0 rfl, g1 j hj]
        have Rq : RC L s3 := ⟨by rw [f3.1 18 rfl]; exact R0.1, R0.2.1, fun i hi => by rw [f3.1 19 rfl]; exact R0.2.2 i hi⟩
        have S3 : SC 38 g s3 := S2.cg (fun a h1 h2 => f3.1 a (by simp; omega))
        have v3 : s3.1 0 13 = 1 := by rw [f3.1 0 rfl, f2.1 0 rfl]; exact v1
        rw [wX11_other_23]
        refine ⟨fun _ => ?_, fun h => absurd (by decide) h⟩
        cases ha : anyO g 6 with
        | false =>
          rw [ha] at hFe
          have hz : F = [] := hFe
          rw [if_pos hz, if_pos hz] at k
          exact ⟨fun h => absurd rfl h, fun _ => k s3 fq gq Rq (CV1 v3 S3)⟩
        | true =>
          rw [ha] at hFe
          have hz : F = chs (otG g 6) := hFe
          refine ⟨fun _ => ?_, fun h => absurd h (by decide)⟩
          refine c_solve (by decide) (by decide) UH.1 R3 (fun s4 f4 S4 => ?_)
          have hl2 := chs_le UH.1
          have hzz : (nI (chs (otG g 6)).length = 0) = (chs (otG g 6) = []) := by
            rw [show (0 : Int32) = nI 0 from rfl, nI_eq (by omega) (by decide), List.length_eq_zero_iff]
          rw [show gi s4 88 8 = nI (chs (otG g 6)).length from S4.1, hzz]
          have ft := fo_t f4
          refine ⟨fun h => ?_, fun h => ?_⟩
          · have hne : ¬ F = [] := by rw [hz]; exact h
            rw [if_neg hne, if_neg hne] at k
            refine c_tellBest (by decide) S4 (fun s5 f5 R5 => ?_)
            have S5 := rD_so (so := 88) (by decide) f5 S4
            rw [show gi s5 88 9 = iI (bst (otG g 6)).1 from S5.2.1]
            rw [ot_bst U, ← hz] at R5 ⊢
            exact k s5 (fq.tr ((ft.mono tD_q).tr (f5.mono rD_q))) (fun j hj => by rw [f5.1 0 rfl, ft.1 0 rfl, gq j hj]) R5 (rD_v f5 (tD_v ft (CV1 v3 S3)))
          · have hz2 : F = [] := by rw [hz]; exact h
            rw [if_pos hz2, if_pos hz2] at k
            exact k s4 (fq.tr (ft.mono tD_q)) (fun j hj => by rw [ft.1 0 rfl, gq j hj]) ⟨by rw [ft.1 18 rfl]; exact Rq.1, Rq.2.1, fun i hi => by rw [ft.1 19 rfl]; exact Rq.2.2 i hi⟩ (tD_v ft (CV1 v3 S3))
      | succ n ih =>
        intro e he s3 f3 R3
        have he6 : e < 6 := by omega
        have S3 : SC 38 g s3 := S2.cg (fun a h1 h2 => f3.1 a (by simp; omega))
        rw [wX11_other_23]
        refine ⟨fun h => absurd h (by rw [ge6 he6]; exact id), fun _ => c_open O S3 he6 ?_⟩
        rw [nI_1]
        cases ho : opq g e with
        | false =>
          refine ⟨fun _ => ?_, fun h => absurd rfl h⟩
          have := ih (e + 1) (by omega) s3 f3 (by
            show repC _ (if opq g e then ruG (otG g e) e (bi6 g e) false else otG g e)
            rw [ho]; exact R3)
          rw [anyO, ho, Bool.or_false] at this
          exact this
        | true =>
          obtain ⟨b1, b2, b3, b4⟩ := bi6_ok O he6 ho
          obtain ⟨U3, hin3⟩ := ot_ok U e (by omega)
          have hm : mn (otG g e) e = mn g e := v_mn (ot_h (by omega) O (by omega))
          refine ⟨fun h => absurd h (by decide), fun _ => ?_⟩
          rw [c_best S3 he6, b3]
          refine c_ruleOut (b := true) (by decide) U3.1 R3 he6 (by rw [hm]; exact b1) (fun hc => absurd (by rw [hin3 e (bi6 g e) he6 b4, b2]; simp) hc) (fun _ s4 f4 R4 => ?_)
          have := ih (e + 1) (by omega) s4 (f3.tr f4) (by
            show repC _ (if opq g e then ruG (otG g e) e (bi6 g e) false else otG g e)
            rw [ho]; exact R4)
          rw [anyO, ho, Bool.or_true] at this
          exact this
    exact Lp 6 0 rfl s2 fR.rf R2
  · have M2 : (wi s1 177 5 0).1 178 = g := by rw [wi_na _ _ _ _ (by decide)]; exact M1.2.2.1
    refine m_survey M2 O (by decide) (fun s2 f2 S2 => ?_)
    have M3 : s2.1 178 = g := by rw [f2.1 178 (by decide) (by decide)]; exact M2
    have f0 : fm mD mF s1 s2 := m_th.tr (f2.mono (by decide) (by decide))
    have R2 : RM L s2 := M1.2.1.th.cg (f2.2.1 4 (by decide)) (f2.2.2.1 180 (by decide))
    have hzz : (nI (chs g).length = 0) = (chs g = []) := by
      rw [show (0 : Int32) = nI 0 from rfl, nI_eq (by omega) (by decide), List.length_eq_zero_iff]
    rw [show gi s2 177 17 = nI (chs g).length from S2.1, hzz]
    refine ⟨fun hne => ?_, fun h0 => ?_⟩
    · obtain ⟨-, Bb⟩ := S2.2.2.2 hne
      have fin : ∀ s3, fm [182, 185] [] s2 s3 → oS g (allP g) s3 → wX12_other_26 Q 1 (iI (oW g (allP g))) 0 s3 := by
        intro s3 f3 o3
        show wX12_other_26 Q (0 + 1) (iI (oW g (allP g))) 0 s3
        rw [wX12_other_26]
        refine ⟨fun _ => ?_, fun h => absurd rfl h⟩
        unfold oW oS at *
        rw [hF] at o3 ⊢
        have f9 : fm mD mF s1 s3 := f0.tr (f3.mono (by decide) (by decide))
        by_cases hz : F = []
        · rw [if_pos hz, if_pos hz] at k
          rw [if_pos hz]
          exact ⟨fun h => absurd rfl h, fun _ => k s3 f9 (R2.cg (f3.2.1 4 (by decide)) (f3.2.2.1 180 (by decide)))⟩
        · rw [if_neg hz, if_neg hz] at k
          rw [if_neg hz]
          have hbd := fold_bd (g := g) F (0, fun _ => -1) (fun q hq => by have := wth_1 O (hFw q hq); omega) (by simp)
          refine ⟨fun _ => ?_, fun h => absurd h (iI_m1 hbd.1 (by omega))⟩
          refine m_tellPicks (by decide) (by decide) (o3 hz) (fun s4 f4 R4 => ?_)
          exact k s4 (f9.tr (f4.mono (by decide) (by decide))) R4
      have step : ∀ (q : Nat → Int32) (d : List (Nat → Int32)) (s3 : gS) (k26 : Int32 → Int32 → gS → Prop), q ∈ allP g → (∀ p, p ∈ d → p ∈ allP g) → fm [182, 185] [] s2 s3 → pk s3 q → oS g d s3 → (∀ s4, fm [182, 185] [] s2 s4 → pk s4 q → oS g (d ++ [q]) s4 → wX12_other_90 Q k26 (iI (oW g (d ++ [q]))) s4) → wpX12_brokenNow s3 (fun r6 s6 => (¬ r6 = 0 → wX12_other_90 Q k26 (iI (oW g d)) s6) ∧ (r6 = 0 → wpX12_isBest s6 (fun r7 s7 => (¬ r7 = 0 → wX12_other_90 Q k26 (iI (oW g d)) s7) ∧ (r7 = 0 → wpX12_isOther s7 (fun r8 s8 => (r8 = 0 → wX12_other_90 Q k26 (iI (oW g d)) s8) ∧ (¬ (r8 = 0) → wpX12_worthNow s8 (fun r9 s9 => (r9 ≤ (iI (oW g d)) → wX12_other_90 Q k26 (iI (oW g d)) s9) ∧ (¬ (r9 ≤ (iI (oW g d))) → wpX12_worthNow s9 (fun r10 s10 => ∃ n66, wX12_other_66 Q (wX12_other_90 Q k26) n66 r10 0 s10)))))))))  := by
        intro q d s3 k26 hq hd f3 P3 o3 K
        have M4 : s3.1 178 = g := by rw [f3.1 178 (by decide) (by decide)]; exact M3
        obtain ⟨-, V, -⟩ := allP_ne hq
        have hb : bb g q < 2 ^ 31 := by
          have h1 := bts_lt (no g) (brk g q)
          have hno := O.2.1.2
          have h2 : 2 ^ no g ≤ 2 ^ 10 := Nat.pow_le_pow_right (by decide) (by omega)
          unfold bb
          omega
        have skip : gO g q = false → wX12_other_90 Q k26 (iI (oW g d)) s3 := by
          intro hg
          have hf : (d ++ [q]).filter (gO g) = d.filter (gO g) := by simp [List.filter_append, hg]
          have hw : oW g (d ++ [q]) = oW g d := by unfold oW; rw [hf]
          have := K s3 f3 P3 (by unfold oS; rw [hf]; exact o3)
          rw [hw] at this
          exact this
        have B3 : ∀ e, e < 6 → s3.1 184 e = (bst g).2 e := fun e he => by rw [f3.1 184 (by decide) (by decide)]; exact Bb e he
        have W3 : ∀ e i, e < 6 → i < 6 → s3.1 183 (6 * e + i) = nI (cw g e i) := fun e i he hi => by rw [f3.1 183 (by decide) (by decide)]; exact S2.2.2.1 e i he hi
        refine m_brokenNow M4 O (by decide) P3 V ?_
        have hz : (nI (bb g q) = 0) = (bb g q = 0) := by rw [show (0 : Int32) = nI 0 from rfl, nI_eq hb (by decide)]
        rw [hz]
        refine ⟨fun h => skip (by simp [gO, gd, h]), fun h => ?_⟩
        refine m_isBest P3 B3 ?_
        cases hbs : isBs g q with
        | true => exact ⟨fun _ => skip (by simp [gO, hbs]), fun h => absurd h (by decide)⟩
        | false =>
          refine ⟨fun h => absurd rfl h, fun _ => m_isOther O W3 P3 B3 ?_⟩
          cases hot : isOt g q with
          | false => exact ⟨fun _ => skip (by simp [gO, hot]), fun h => absurd rfl h⟩
          | true =>
            refine ⟨fun h => absurd h (by decide), fun _ => m_worthNow M4 O P3 V ?_⟩
            have hg : gO g q = true := by simp [gO, gd, h, hbs, hot]
            have hf : (d ++ [q]).filter (gO g) = d.filter (gO g) ++ [q] := by simp [List.filter_append, hg]
            obtain ⟨w1, w2⟩ := wth_1 O hq
            have hbd := fold_bd (g := g) (d.filter (gO g)) (0, fun _ => -1) (fun p hp => by have := wth_1 O (hd p (List.mem_filter.mp hp).1); omega) (by simp)
            have hob : -1 ≤ oW g d ∧ oW g d ≤ 18 := by unfold oW; split <;> omega
            have hnew : ¬ (d ++ [q]).filter (gO g) = [] := by rw [hf]; simp
            have hstep : (d ++ [q]).filter (gO g) ≠ [] ∧ ((d ++ [q]).filter (gO g)).foldl (bstep g) (0, fun _ => -1) = if oW g d < wth g q 6 then (wth g q 6, q) else (d.filter (gO g)).foldl (bstep g) (0, fun _ => -1) := by
              refine ⟨hnew, ?_⟩
              rw [hf, List.foldl_append]
              simp only [List.foldl_cons, List.foldl_nil]
              unfold oW
              by_cases hd0 : d.filter (gO g) = []
              · rw [if_pos hd0, if_pos (by omega), hd0, List.foldl_nil]
                unfold bstep
                rw [if_pos (show (0 : Int) < wth g q 6 by omega)]
              · rw [if_neg hd0]
                rfl
            rw [iI_le (by omega) (by omega) (by omega) (by omega)]
            refine ⟨fun hle => ?_, fun hle => m_worthNow M4 O P3 V ⟨7, ?_⟩⟩
            · have hd0 : ¬ d.filter (gO g) = [] := fun h0 => by
                have : oW g d = -1 := by unfold oW; rw [if_pos h0]
                omega
              have hs2 := hstep.2
              rw [if_neg (by omega)] at hs2
              have hw : oW g (d ++ [q]) = oW g d := by
                unfold oW
                rw [if_neg hnew, if_neg hd0, hs2]
              have := K s3 f3 P3 (fun _ => by rw [hs2]; exact o3 hd0)
              rw [hw] at this
              exact this
            · have hs2 := hstep.2
              rw [if_pos (by omega)] at hs2
              have hw : oW g (d ++ [q]) = wth g q 6 := by
                unfold oW
                rw [if_neg hnew, hs2]
              refine m_o66 (q := q) 6 0 rfl s3 P3 (fun j hj => by omega) (fun s4 f4 h4 => ?_)
              have := K s4 (f3.tr (f4.mono (by decide) (by decide))) (fun e he => by rw [f4.1 182 (by decide) (by decide)]; exact P3 e he) (fun _ => by rw [hs2]; exact h4)
              rw [hw] at this
              exact this
      have Lp : ∀ (l : List (Nat → Int32)) (q : Nat → Int32) (d : List (Nat → Int32)), allP g = d ++ q :: l → chn (nxN g 6) (q :: l) → ∀ s3, fm [182, 185] [] s2 s3 → pk s3 q → oS g d s3 → wX12_other_26 Q (l.length + 2) (iI (oW g d)) 1 s3 := by
        intro l
        induction l with
        | nil =>
          intro q d hd Cq s3 f3 P3 o3
          have hq : q ∈ allP g := by rw [hd]; simp
          show wX12_other_26 Q (1 + 1) (iI (oW g d)) 1 s3
          rw [wX12_other_26]
          refine ⟨fun h => absurd h (by decide), fun _ => step q d s3 _ hq (fun p hp => by rw [hd]; simp [hp]) f3 P3 o3 (fun s4 f4 P4 o4 => ?_)⟩
          unfold wX12_other_90
          refine m_next (by rw [f4.1 178 (by decide) (by decide)]; exact M3) O hq P4 Cq (fun _ s5 f5 => ?_) (fun q' t' h => by cases h)
          rw [show d ++ [q] = allP g from hd.symm] at o4 ⊢
          exact fin s5 (f4.tr (f5.mono (by decide) (by decide))) (fun h e he => by rw [f5.1 185 (by decide) (by decide)]; exact o4 h e he)
        | cons q' l ih =>
          intro q d hd Cq s3 f3 P3 o3
          have hq : q ∈ allP g := by rw [hd]; simp
          show wX12_other_26 Q ((l.length + 2) + 1) (iI (oW g d)) 1 s3
          rw [wX12_other_26]
          refine ⟨fun h => absurd h (by decide), fun _ => step q d s3 _ hq (fun p hp => by rw [hd]; simp [hp]) f3 P3 o3 (fun s4 f4 P4 o4 => ?_)⟩
          unfold wX12_other_90
          refine m_next (by rw [f4.1 178 (by decide) (by decide)]; exact M3) O hq P4 Cq (fun h => by cases h) (fun q'' t' h C2 s5 f5 P5 => ?_)
          cases h
          exact ih q' (d ++ [q]) (by rw [hd]; simp) C2 s5 (f4.tr (f5.mono (by decide) (by decide))) P5 (fun h e he => by rw [f5.1 185 (by decide) (by decide)]; exact o4 h e he)
      refine m_start M3 O (fun h s3 f3 => ⟨1, ?_⟩) (fun q l h Cq s3 f3 P3 => ⟨l.length + 2, ?_⟩)
      · exfalso
        apply hne
        unfold chs
        rw [h]
        rfl
      · exact Lp l q [] h Cq s3 (f3.mono (by decide) (by decide)) P3 (fun h => absurd rfl h)
    · have hz : F = [] := by
        rw [hFe]
        split
        · rw [ot_chs U, h0]; rfl
        · rfl
      rw [if_pos hz, if_pos hz] at k
      exact k s2 f0 R2
end OTHER
