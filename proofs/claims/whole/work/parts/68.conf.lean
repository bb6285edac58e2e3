/-! conflict: the calls -/
section CONF
variable {t : List Nat} {L : List Int32} {g g' : Sy} {us us' : List Sy} {ks : Nat → Option Sy} {s s' : gS} {K : gS → Prop} {Q : gS → Prop}
def tpN (m : Nat) : Nat := (2 ^ m - 1) * 2 ^ (10 - m)
theorem tp_v : ∀ m, m < 11 → 1 ≤ m → jshl (jshl 1 (nI m) - 1) (10 - nI m) = nI (tpN m) ∧ tpN m < 1024 := by decide +kernel
theorem ky_max : ∀ b, b < 1024 → ky b ≤ ky 1023 := by decide +kernel
def isMin (Lb : List Nat) (F : Nat) : Prop := F ∈ Lb ∧ ∀ b, b ∈ Lb → ky F ≤ ky b
theorem min_un {Lb : List Nat} (hl : ∀ b, b ∈ Lb → b < 1024) {F G : Nat} (h1 : isMin Lb F) (h2 : isMin Lb G) : F = G := ky_inj (hl F h1.1) (hl G h2.1) (Nat.le_antisymm (h1.2 G h2.1) (h2.2 F h1.1))
theorem min_ex {Lb : List Nat} (hl : ∀ b, b ∈ Lb → b < 1024) (hne : Lb ≠ []) : ∃ F, isMin Lb F := by
  obtain ⟨a0, a1, a2, a3, -⟩ := stC_ok Lb hl (1023, 0) (by decide)
  rcases a3 with a3 | a3
  · cases hL : Lb with
    | nil => exact absurd hL hne
    | cons b Lb' =>
      have hb : b ∈ Lb := by rw [hL]; exact List.mem_cons_self
      have h1 := a2 b hb
      rw [a3] at h1
      have h2 : b = 1023 := ky_inj (hl b hb) (by decide) (Nat.le_antisymm (ky_max b (hl b hb)) h1)
      rw [← hL]
      refine ⟨1023, h2 ▸ hb, fun c hc => ?_⟩
      have := a2 c hc
      rw [a3] at this
      exact this
  · exact ⟨_, a3, a2⟩
theorem c_find {F : Nat} (O : okS 10 g) (R : repC (s.1 (20 + 1)) g) (hne : allP g ≠ []) (hF : isMin ((allP g).map (bb g)) F) (k : ∀ s', fC s s' → s'.1 138 2 = nI F → s'.1 138 3 = nI (((allP g).map (bb g)).count F) → Q s') : wpX1_find 20 s Q := by
  have hno := O.2.1.2
  have hlb : ∀ b, b ∈ (allP g).map (bb g) → b < 1024 := fun b hb => by
    obtain ⟨q, -, rfl⟩ := List.mem_map.mp hb
    exact bb_lt O (Nat.le_refl _)
  have hpr : prC (elF g 6 0) (inn g) (fun _ => -1) = allP g := by
    rw [elF_el, ← PN_pr O 6 (Nat.le_refl _)]
    unfold allP
    cases ha : any g with
    | true => rfl
    | false =>
      exfalso
      apply hne
      unfold allP
      rw [ha]; rfl
  have hB0 : BE g 0 (fun _ => -1) = 0 := by
    unfold BE
    rw [bts_eq0]
    intro i _
    simp
  have hlen := allP_le O
  have hcl : ∀ F, ((allP g).map (bb g)).count F ≤ 46656 := fun F => by
    have := List.count_le_length (a := F) (l := (allP g).map (bb g))
    rw [List.length_map] at this
    omega
  -- more and more orders
  have L3 : ∀ r m, m + r = 11 → 1 ≤ m → ∀ s1, fC s s1 → BK g (no g) (fun _ _ => false) s1 → ((s1.1 138 3 = 0 ∧ m ≤ 10) ∨ (s1.1 138 2 = nI F ∧ s1.1 138 3 = nI (((allP g).map (bb g)).count F))) → wX1_find_66 20 Q (r + 1) (nI m) s1 := by
    have done : ∀ r m, m ≤ 11 → ∀ s1, fC s s1 → s1.1 138 2 = nI F → s1.1 138 3 = nI (((allP g).map (bb g)).count F) → wX1_find_66 20 Q (r + 1) (nI m) s1 := by
      intro r m hm s1 f h2 h3
      have hc := List.count_pos_iff.mpr hF.1
      have hc2 := hcl F
      rw [wX1_find_66]
      refine ⟨fun _ => k s1 f h2 h3, fun _ => ⟨fun _ => k s1 f h2 h3, fun h => ?_⟩⟩
      have h4 : s1.1 138 3 = 0 := h
      rw [h3, show (0 : Int32) = nI 0 from rfl, nI_eq (by omega) (by decide)] at h4
      omega
    intro r
    induction r with
    | zero =>
      intro m hm hm1 s1 f I h
      rcases h with ⟨-, h⟩ | ⟨h2, h3⟩
      · omega
      · exact done 0 m (by omega) s1 f h2 h3
    | succ r ih =>
      intro m hm hm1 s1 f I h
      rcases h with ⟨h0, -⟩ | ⟨h2, h3⟩
      · obtain ⟨t1, t2⟩ := tp_v m (by omega) hm1
        rw [wX1_find_66]
        refine ⟨fun h => ?_, fun _ => ⟨fun h => absurd h0 h, fun _ => ?_⟩⟩
        · rw [show (10 : Int32) = nI 10 from rfl, nI_ltI (by decide) (by omega)] at h; omega
        · rw [t1]
          have f1 : fC s1 (wi s1 138 2 (nI (tpN m))) := fC_wi (by decide) (by decide)
          have I1 : BK g (no g) (fun _ _ => false) (wi s1 138 2 (nI (tpN m))) := I.fX (fX_wi (Or.inl rfl))
          have := c_csr O 6 0 rfl 1 (fun _ => -1) (wi s1 138 2 (nI (tpN m))) (tpN m) 0 (fun s3 => wX1_find_66 20 Q (r + 1) (nI m + 1) s3) I1 (by rw [wi_na _ _ _ _ (by decide), f.1 (20 + 1) (by decide)]; exact R) (fun e' h => by omega) (fun e' h => by omega) t2 (wi_at _ _ _ _) (by rw [wi_ne _ _ _ _ (by decide)]; exact h0) (fun s3 f3 H3 a2 a3 => ?_)
          · rw [hB0] at this
            exact this
          · rw [hpr] at a2 a3
            obtain ⟨c0, c1, c2, c3, c4⟩ := stC_ok ((allP g).map (bb g)) hlb (tpN m, 0) t2
            generalize hR : ((allP g).map (bb g)).foldl stC (tpN m, 0) = RR at *
            have c4' : RR.2 = ((allP g).map (bb g)).count RR.1 := by rw [c4]; split <;> omega
            have f4 : fC s s3 := f.tr (f1.tr ⟨fun a ha => f3.1 a (by omega) (by omega), f3.2⟩)
            rw [nI_1]
            refine ih (m + 1) (by omega) (by omega) s3 f4 (I1.fX f3) ?_
            by_cases hin : RR.1 ∈ (allP g).map (bb g)
            · have : RR.1 = F := min_un hlb ⟨hin, c2⟩ hF
              refine Or.inr ⟨by rw [a2, this], by rw [a3, c4', this]⟩
            · refine Or.inl ⟨?_, ?_⟩
              · rw [a3, c4', List.count_eq_zero.mpr hin]; rfl
              · apply Classical.byContradiction
                intro h10
                have hm10 : m = 10 := by omega
                subst hm10
                have ht : tpN 10 = 1023 := by decide
                have e1 : RR.1 = 1023 := by rw [← ht]; exact c3.resolve_right hin
                have h5 := c2 F hF.1
                rw [e1] at h5
                have h6 : F = 1023 := ky_inj (hlb F hF.1) (by decide) (Nat.le_antisymm (ky_max F (hlb F hF.1)) h5)
                rw [e1, ← h6] at hin
                exact hin hF.1
      · exact done (r + 1) m (by omega) s1 f h2 h3
  -- orders one behind another
  have L2 : ∀ r o, o + r = no g → ∀ s1, fC s s1 → BK g o (fun _ _ => false) s1 → wX1_find_39 20 Q (r + 1) (nI o) s1 := by
    intro r
    induction r with
    | zero =>
      intro o ho s1 f I
      have : o = no g := by omega
      subst this
      have R1 : repC (s1.1 (20 + 1)) g := by rw [f.1 (20 + 1) (by decide)]; exact R
      rw [wX1_find_39, c_orders O R1]
      refine ⟨fun _ => ⟨11, ?_⟩, fun h => absurd (nI_le (Nat.le_refl _) (by omega)) h⟩
      exact L3 10 1 rfl (by decide) _ (f.tr (fC_wi (by decide) (by decide))) (I.fX (fX_wi (Or.inl rfl))) (Or.inl ⟨wi_at _ _ _ _, by decide⟩)
    | succ r ih =>
      intro o ho s1 f I
      have R1 : repC (s1.1 (20 + 1)) g := by rw [f.1 (20 + 1) (by decide)]; exact R
      rw [wX1_find_39, c_orders O R1]
      refine ⟨fun h => ?_, fun _ => ?_⟩
      · rw [nI_leI (by omega) (by omega)] at h; omega
      · refine c_cheed O R1 (by omega) I (fun s2 f2 I2 => ?_)
        rw [nI_1]
        exact ih (o + 1) (by omega) s2 (f.tr f2) I2
  -- nothing is broken yet
  have ge36 : ∀ i, i < 36 → (36 ≤ nI i) = False := fun i hi => by
    rw [show (36 : Int32) = nI 36 from rfl, nI_leI (by decide) (by omega)]
    simp; omega
  have L1 : ∀ r a, a + r = 36 → ∀ s1, fC s s1 → (∀ b c, b < a → c < 36 → s1.1 (139 + 1 + b) c = 0) → wX1_find_2 20 Q (r + 1) (nI a) s1 := by
    intro r
    induction r with
    | zero =>
      intro a ha s1 f Z
      have : a = 36 := by omega
      subst this
      rw [wX1_find_2]
      refine ⟨fun _ => ⟨no g + 1, L2 (no g) 0 (by omega) s1 f (fun e i e' k he he' hi hk => ?_)⟩, fun h => absurd (by decide) h⟩
      refine ⟨fun _ => false, ?_, fun t1 t2 hi2 hk2 j hj => ?_, fun _ _ _ => rfl⟩
      · rw [Z _ _ (by omega) (by omega)]
        decide +kernel
      · have hx0 : xtr g 0 (fun _ _ => false) e i e' k = false := by
          unfold xtr
          split
          · rfl
          · split <;> rfl
        rw [hx0]
        simp
    | succ r ih =>
      intro a ha s1 f Z
      rw [wX1_find_2]
      refine ⟨fun h => absurd h (by rw [ge36 a (by omega)]; exact id), fun _ => ⟨37, ?_⟩⟩
      have inner : ∀ m c, c + m = 36 → ∀ s2, fC s s2 → (∀ b c, b < a → c < 36 → s2.1 (139 + 1 + b) c = 0) → (∀ j, j < c → s2.1 (139 + 1 + a) j = 0) → wX1_find_10 20 Q (fun y2 s => wX1_find_2 20 Q (r + 1) y2 s) (m + 1) (nI a) (nI c) s2 := by
        intro m
        induction m with
        | zero =>
          intro c hc s2 f2 Z2 Z3
          have : c = 36 := by omega
          subst this
          rw [wX1_find_10]
          refine ⟨fun _ => ?_, fun h => absurd (by decide) h⟩
          rw [nI_1]
          refine ih (a + 1) (by omega) s2 f2 (fun b c hb hc => ?_)
          by_cases hba : b = a
          · subst hba; exact Z3 c hc
          · exact Z2 b c (by omega) hc
        | succ m ih2 =>
          intro c hc s2 f2 Z2 Z3
          rw [wX1_find_10, nI_1 c]
          simp only [ge36 c (by omega), ix_nI (show a < 2 ^ 31 by omega), ix_nI (show c < 2 ^ 31 by omega), vp_in_nI (show a < 36 by omega) (show 36 < 2 ^ 31 by decide), vp_in_nI (show c < 36 by omega) (show 36 < 2 ^ 31 by decide), false_implies, true_and, not_false_eq_true, true_implies]
          refine ih2 (c + 1) (by omega) _ (f2.tr (fC_wi (by omega) (by omega))) (fun b c' hb hc' => by rw [wi_na _ _ _ _ (by omega)]; exact Z2 b c' hb hc') (fun j hj => ?_)
          by_cases hjc : j = c
          · subst hjc; rw [wi_at]
          · rw [wi_ne _ _ _ _ hjc]; exact Z3 j (by omega)
      exact inner 36 0 rfl s1 f Z (fun j hj => by omega)
  exact ⟨37, L1 36 0 rfl s fC.rf (fun b c hb => by omega)⟩
/-- the reference's least set so far -/
def lsM (r : Option Nat) (b : Nat) : Option Nat := match r with
  | none => some b
  | some F => if ky b < ky F then some b else some F
def lsI : Option Nat → Int32
  | none => -1
  | some F => nI F
theorem ls_ok (Lb : List Nat) : (∀ b, b ∈ Lb → b < 1024) → ∀ r : Option Nat, (∀ F, r = some F → F < 1024) → (∀ F, Lb.foldl lsM r = some F → F < 1024 ∧ (∀ b, b ∈ Lb → ky F ≤ ky b) ∧ (∀ G, r = some G → ky F ≤ ky G) ∧ (r = some F ∨ F ∈ Lb)) ∧ (Lb.foldl lsM r = none → r = none ∧ Lb = []) := by
  induction Lb with
  | nil =>
    intro _ r hr
    refine ⟨fun F h => ?_, fun h => ⟨h, rfl⟩⟩
    have h' : r = some F := h
    refine ⟨hr F h', fun b hb => (by cases hb), fun G hG => ?_, Or.inl h'⟩
    rw [h'] at hG
    cases hG
    exact Nat.le_refl _
  | cons b Lb ih =>
    intro hl r hr
    have hb := hl b List.mem_cons_self
    rw [List.foldl_cons]
    have hr' : ∀ F, lsM r b = some F → F < 1024 := by
      intro F h
      unfold lsM at h
      cases r with
      | none => cases h; exact hb
      | some G =>
        simp only at h
        split at h
        · cases h; exact hb
        · cases h; exact hr _ rfl
    obtain ⟨a1, a2⟩ := ih (fun b hb => hl b (List.mem_cons_of_mem _ hb)) (lsM r b) hr'
    refine ⟨fun F h => ?_, fun h => ?_⟩
    · obtain ⟨c1, c2, c3, c4⟩ := a1 F h
      have hbF : ky F ≤ ky b ∧ (∀ G, r = some G → ky F ≤ ky G) := by
        cases hrr : r with
        | none =>
          have := c3 b (by rw [hrr]; rfl)
          exact ⟨this, fun G hG => by cases hG⟩
        | some G =>
          by_cases hc : ky b < ky G
          · have := c3 b (by rw [hrr]; show (if ky b < ky G then some b else some G) = _; rw [if_pos hc])
            exact ⟨this, fun G' hG => by cases hG; omega⟩
          · have := c3 G (by rw [hrr]; show (if ky b < ky G then some b else some G) = _; rw [if_neg hc])
            exact ⟨by omega, fun G' hG => by cases hG; exact this⟩
      refine ⟨c1, fun c hc => ?_, hbF.2, ?_⟩
      · rcases List.mem_cons.mp hc with rfl | hc
        · exact hbF.1
        · exact c2 c hc
      · rcases c4 with c4 | c4
        · unfold lsM at c4
          cases hrr : r with
          | none => rw [hrr] at c4; cases c4; exact Or.inr List.mem_cons_self
          | some G =>
            rw [hrr] at c4
            simp only at c4
            split at c4
            · cases c4; exact Or.inr List.mem_cons_self
            · cases c4; exact Or.inl rfl
        · exact Or.inr (List.mem_cons_of_mem _ c4)
    · have := (a2 h).1
      unfold lsM at this
      cases r with
      | none => cases this
      | some G => simp only at this; split at this <;> cases this
theorem S_conflict (A : okA t L g us ks) (C : CI t L g us ks s) (M : MI t L g us ks s) (kk : KK t K) : wpX11_conflict s (fun r s1 => wpX12_conflict s1 (eqK K r)) := by
  have O := A.2.2.1.1
  have hl := chs_le O
  have hla := allP_le O
  have hlb : ∀ b, b ∈ (allP g).map (bb g) → b < 1024 := fun b hb => by
    obtain ⟨q, -, rfl⟩ := List.mem_map.mp hb
    exact bb_lt O (Nat.le_refl _)
  have hza : (nI (allP g).length = 0) = (allP g = []) := by
    rw [show (0 : Int32) = nI 0 from rfl, nI_eq (by omega) (by decide), List.length_eq_zero_iff]
  have hzc : (nI (chs g).length ≤ 0) = (chs g = []) := by
    rw [show (0 : Int32) = nI 0 from rfl, nI_leI (by omega) (by decide)]
    apply propext
    exact ⟨fun h => List.length_eq_zero_iff.mp (by omega), fun h => by rw [h]; exact Nat.le_refl _⟩
  have M0 : ∀ s1, MI t L g us ks s1 → (wi s1 177 5 0).1 178 = g := fun s1 h => by rw [wi_na _ _ _ _ (by decide)]; exact h.2.2.1
  by_cases h0 : allP g = []
  · have hc0 : chs g = [] := by unfold chs; rw [h0]; rfl
    refine S_q (L' := L) (r := -3) (WC := wpX11_conflict s) (WM := wpX12_conflict) A C M A.2.1 kk (fun Q k => ?_) (fun s1 M1 Q k => ?_)
    · refine c_cwo O C.2.2.1 ?_
      rw [hza]
      exact ⟨fun h => absurd h0 h, fun _ => qC_self C k⟩
    · refine m_survey (M0 s1 M1) O (by decide) (fun s2 f2 S2 => ?_)
      rw [show gi s2 177 17 = nI (chs g).length from S2.1, hzc]
      refine ⟨fun _ => ?_, fun h => absurd hc0 h⟩
      refine m_start (by rw [f2.1 178 (by decide) (by decide)]; exact M0 s1 M1) O (fun _ s3 f3 => ⟨1, ?_⟩) (fun q l h => by rw [h0] at h; cases h)
      show wX12_conflict_26 Q (0 + 1) (-1) 0 s3
      rw [wX12_conflict_26]
      refine ⟨fun _ => ⟨fun h => absurd rfl h, fun _ => ?_⟩, fun h => absurd rfl h⟩
      exact k s3 (m_th.tr ((f2.mono (by decide) (by decide)).tr (f3.mono (by decide) (by decide)))) ((M1.2.1.th.cg (f2.2.1 4 (by decide)) (f2.2.2.1 180 (by decide))).cg (f3.2.1 4 (by decide)) (f3.2.2.1 180 (by decide)))
  · by_cases hc : chs g = []
    · obtain ⟨F, hF⟩ := min_ex hlb (fun h => h0 (List.map_eq_nil_iff.mp h))
      have hF1 := hlb F hF.1
      refine S_q (L' := [nI (((allP g).map (bb g)).count F)]) (r := nI F) (WC := wpX11_conflict s) (WM := wpX12_conflict) A C M (by simp) kk (fun Q k => ?_) (fun s1 M1 Q k => ?_)
      · refine c_cwo O C.2.2.1 ?_
        rw [hza]
        refine ⟨fun _ => ?_, fun h => absurd h h0⟩
        refine c_solved O C.2.2.1 C.2.2.2.1 (fun s1 f1 g1 v1 S1 => ?_)
        rw [show gi s1 38 8 = nI (chs g).length from S1.1, hzc]
        refine ⟨fun _ => ?_, fun h => absurd hc h⟩
        refine c_find O (by rw [f1.1 (20 + 1) rfl]; exact C.2.2.1) h0 hF (fun s2 f2 a2 a3 => ?_)
        have f2q : fR qD s1 s2 := ⟨fun a ha => f2.1 a (by unfold qD at ha; simp at ha; omega), f2.2⟩
        refine c_clear (fun s3 f3 R3 => ?_)
        rw [show gi s3 138 3 = nI (((allP g).map (bb g)).count F) from by
          show s3.1 138 3 = _
          rw [f3.1 138 rfl]; exact a3]
        refine c_add R3 (by simp) (fun s4 f4 R4 => ?_)
        rw [show gi s4 138 2 = nI F from by
          show s4.1 138 2 = _
          rw [f4.1 138 rfl, f3.1 138 rfl]; exact a2]
        have f5 := f3.tr f4
        refine k s4 ((f1.mono sD_q).tr (f2q.tr (f5.mono rD_q))) (fun j hj => by rw [f5.1 0 rfl, f2.1 0 (by omega), g1 j hj]) R4 (rD_v f5 (CV1 (by rw [f2.1 0 (by omega)]; exact v1) (S1.cg (fun a h1 h2 => f2.1 a (by omega)))))
      · refine m_survey (M0 s1 M1) O (by decide) (fun s2 f2 S2 => ?_)
        have M3 : s2.1 178 = g := by rw [f2.1 178 (by decide) (by decide)]; exact M0 s1 M1
        rw [show gi s2 177 17 = nI (chs g).length from S2.1, hzc]
        refine ⟨fun _ => ?_, fun h => absurd hc h⟩
        have f0 : fm mD mF s1 s2 := m_th.tr (f2.mono (by decide) (by decide))
        -- the second time: how many
        have sec : ∀ s3, fm [182] [] s2 s3 → wpX12_startPicks s3 (fun r5 s5 => ∃ n92, wX12_conflict_92 Q n92 (nI F) r5 0 s5) := by
          intro s3 f3
          have fin : ∀ s4, fm [182] [] s2 s4 → wX12_conflict_92 Q 1 (nI F) 0 (nI ((allP g).countP fun q => bb g q == F)) s4 := by
            intro s4 f4
            show wX12_conflict_92 Q (0 + 1) (nI F) 0 (nI ((allP g).countP fun q => bb g q == F)) s4
            rw [wX12_conflict_92]
            refine ⟨fun _ => ?_, fun h => absurd rfl h⟩
            refine m_tell m_new (by simp) (fun s5 f5 R5 => ?_)
            rw [show ((allP g).countP fun q => bb g q == F) = ((allP g).map (bb g)).count F from by
              rw [List.count, List.countP_map]; rfl] at R5
            exact k s5 (f0.tr ((f4.mono (by decide) (by decide)).tr (m_rw.tr (f5.mono (by decide) (by decide))))) R5
          have step : ∀ (q : Nat → Int32) (d : List (Nat → Int32)) (s4 : gS) (k92 : Int32 → Int32 → Int32 → gS → Prop), q ∈ allP g → fm [182] [] s2 s4 → pk s4 q → wpX12_nextPicks s4 (fun r4 s5 => k92 (nI F) r4 (nI ((d ++ [q]).countP fun q => bb g q == F)) s5) → wpX12_brokenNow s4 (fun r12 s12 => (¬ (r12 &&& (nI F ^^^ (-1))) = 0 → wX12_conflict_113 Q k92 (nI F) 0 (nI (d.countP fun q => bb g q == F)) s12) ∧ ((r12 &&& (nI F ^^^ (-1))) = 0 → wX12_conflict_113 Q k92 (nI F) 1 (nI (d.countP fun q => bb g q == F)) s12)) := by
            intro q d s4 k92 hq f4 P4 Kn
            obtain ⟨-, V, -⟩ := allP_ne hq
            have hbq : bb g q < 1024 := bb_lt O (Nat.le_refl _)
            have hmin := hF.2 (bb g q) (List.mem_map_of_mem hq)
            refine m_brokenNow (by rw [f4.1 178 (by decide) (by decide)]; exact M3) O (by decide) P4 V ?_
            have hx : 1023 ^^^ F < 2 ^ 10 := Nat.xor_lt_two_pow (by decide) hF1
            have hand : (bb g q &&& (1023 ^^^ F)) < 2 ^ 10 := Nat.and_lt_two_pow _ hx
            rw [bno10 hbq hF1, show (0 : Int32) = nI 0 from rfl, nI_eq (by omega) (by decide), and_z hbq hF1]
            have hse : sub (bb g q) F ↔ bb g q = F := by
              refine ⟨fun h => sub_eq hbq hF1 h ?_, fun h => by rw [h]; exact fun _ _ h => h⟩
              have h1 := sub_ky hbq hF1 h
              have := ky_inj hbq hF1 (Nat.le_antisymm h1 hmin)
              rw [this]
              exact Nat.le_refl _
            rw [hse]
            unfold wX12_conflict_113
            have hcn : (d ++ [q]).countP (fun q => bb g q == F) = d.countP (fun q => bb g q == F) + (if bb g q = F then 1 else 0) := by
              rw [List.countP_append]
              by_cases h : bb g q = F <;> simp [h]
            rw [hcn] at Kn
            refine ⟨fun h => ?_, fun h => ?_⟩
            · rw [if_neg h] at Kn
              rw [nI_add]
              exact Kn
            · rw [if_pos h] at Kn
              rw [nI_1]
              exact Kn
          have Lp : ∀ (l : List (Nat → Int32)) (q : Nat → Int32) (d : List (Nat → Int32)), allP g = d ++ q :: l → chn (nxN g 6) (q :: l) → ∀ s4, fm [182] [] s2 s4 → pk s4 q → wX12_conflict_92 Q (l.length + 2) (nI F) 1 (nI (d.countP fun q => bb g q == F)) s4 := by
            intro l
            induction l with
            | nil =>
              intro q d hd Cq s4 f4 P4
              have hq : q ∈ allP g := by rw [hd]; simp
              show wX12_conflict_92 Q (1 + 1) (nI F) 1 (nI (d.countP fun q => bb g q == F)) s4
              rw [wX12_conflict_92]
              refine ⟨fun h => absurd h (by decide), fun _ => step q d s4 _ hq f4 P4 ?_⟩
              refine m_next (by rw [f4.1 178 (by decide) (by decide)]; exact M3) O hq P4 Cq (fun _ s5 f5 => ?_) (fun q' t' h => by cases h)
              rw [show d ++ [q] = allP g from hd.symm]
              exact fin s5 (f4.tr f5)
            | cons q' l ih =>
              intro q d hd Cq s4 f4 P4
              have hq : q ∈ allP g := by rw [hd]; simp
              show wX12_conflict_92 Q ((l.length + 2) + 1) (nI F) 1 (nI (d.countP fun q => bb g q == F)) s4
              rw [wX12_conflict_92]
              refine ⟨fun h => absurd h (by decide), fun _ => step q d s4 _ hq f4 P4 ?_⟩
              refine m_next (by rw [f4.1 178 (by decide) (by decide)]; exact M3) O hq P4 Cq (fun h => by cases h) (fun q'' t' h C2 s5 f5 P5 => ?_)
              cases h
              exact ih q' (d ++ [q]) (by rw [hd]; simp) C2 s5 (f4.tr f5) P5
          refine m_start (by rw [f3.1 178 (by decide) (by decide)]; exact M3) O (fun h => absurd h h0) (fun q l h Cq s4 f4 P4 => ⟨l.length + 2, ?_⟩)
          exact Lp l q [] h Cq s4 (f3.tr f4) P4
        -- the first time: the least
        have fin : ∀ s3, fm [182] [] s2 s3 → wX12_conflict_26 Q 1 (lsI (((allP g).map (bb g)).foldl lsM none)) 0 s3 := by
          intro s3 f3
          obtain ⟨c1, c2⟩ := ls_ok ((allP g).map (bb g)) hlb none (fun F h => by cases h)
          show wX12_conflict_26 Q (0 + 1) (lsI (((allP g).map (bb g)).foldl lsM none)) 0 s3
          cases hls : ((allP g).map (bb g)).foldl lsM none with
          | none =>
            exact absurd (List.map_eq_nil_iff.mp (c2 hls).2) h0
          | some G =>
            obtain ⟨d1, d2, -, d4⟩ := c1 G hls
            have hG : G = F := min_un hlb ⟨by rcases d4 with h | h; cases h; exact h, d2⟩ hF
            subst hG
            rw [wX12_conflict_26]
            refine ⟨fun _ => ⟨fun _ => sec s3 f3, fun h => absurd h (nI_ne (by omega))⟩, fun h => absurd rfl h⟩
        have step : ∀ (q : Nat → Int32) (d : List (Nat → Int32)) (s4 : gS) (k26 : Int32 → Int32 → gS → Prop), q ∈ allP g → (∀ p, p ∈ d → p ∈ allP g) → fm [182] [] s2 s4 → pk s4 q → wX12_conflict_69 Q k26 (lsI (((d ++ [q]).map (bb g)).foldl lsM none)) s4 → wpX12_brokenNow s4 (fun r6 s6 => (lsI ((d.map (bb g)).foldl lsM none) = (-1) → wX12_conflict_67 Q (wX12_conflict_69 Q k26) r6 s6) ∧ (¬ (lsI ((d.map (bb g)).foldl lsM none) = (-1)) → wpX12_countBits r6 s6 (fun r7 s7 => wpX12_countBits (lsI ((d.map (bb g)).foldl lsM none)) s7 (fun r8 s8 => (r7 < r8 → wX12_conflict_67 Q (wX12_conflict_69 Q k26) r6 s8) ∧ (¬ (r7 < r8) → wpX12_countBits r6 s8 (fun r9 s9 => wpX12_countBits (lsI ((d.map (bb g)).foldl lsM none)) s9 (fun r10 s10 => (¬ r9 = r10 → wX12_conflict_69 Q k26 (lsI ((d.map (bb g)).foldl lsM none)) s10) ∧ (r9 = r10 → (lsI ((d.map (bb g)).foldl lsM none) ≤ r6 → wX12_conflict_69 Q k26 (lsI ((d.map (bb g)).foldl lsM none)) s10) ∧ (¬ (lsI ((d.map (bb g)).foldl lsM none) ≤ r6) → wX12_conflict_67 Q (wX12_conflict_69 Q k26) r6 s10))))))))) := by
          intro q d s4 k26 hq hd f4 P4 Kn
          obtain ⟨-, V, -⟩ := allP_ne hq
          have hbq : bb g q < 1024 := bb_lt O (Nat.le_refl _)
          rw [List.map_append, List.foldl_append, List.map_cons, List.map_nil, List.foldl_cons, List.foldl_nil] at Kn
          refine m_brokenNow (by rw [f4.1 178 (by decide) (by decide)]; exact M3) O (by decide) P4 V ?_
          have hls := (ls_ok (d.map (bb g)) (fun b hb => by
            obtain ⟨p, -, rfl⟩ := List.mem_map.mp hb
            exact bb_lt O (Nat.le_refl _)) none (fun F h => by cases h)).1
          unfold wX12_conflict_67
          cases hr : (d.map (bb g)).foldl lsM none with
          | none =>
            rw [hr] at Kn
            exact ⟨fun _ => Kn, fun h => absurd rfl h⟩
          | some G =>
            have hG := (hls G hr).1
            rw [hr] at Kn
            have p1 : pc (bb g q) ≤ 10 := cnt_le 10 _
            have p2 : pc G ≤ 10 := cnt_le 10 _
            show (nI G = -1 → _) ∧ (¬ nI G = -1 → _)
            refine ⟨fun h => absurd h (nI_ne (by omega)), fun _ => m_countBits hbq (m_countBits hG ?_)⟩
            have Kn' : wX12_conflict_69 Q k26 (lsI (if ky (bb g q) < ky G then some (bb g q) else some G)) s4 := Kn
            rw [nI_ltI (by omega) (by omega)]
            refine ⟨fun h => ?_, fun h => m_countBits hbq (m_countBits hG ?_)⟩
            · rw [if_pos (by unfold ky; omega)] at Kn'; exact Kn'
            · rw [nI_eq (by omega) (by omega)]
              refine ⟨fun h2 => ?_, fun h2 => ?_⟩
              · rw [if_neg (by unfold ky; omega)] at Kn'; exact Kn'
              · show (nI G ≤ nI (bb g q) → _) ∧ (¬ nI G ≤ nI (bb g q) → _)
                rw [nI_leI (by omega) (by omega)]
                refine ⟨fun h3 => ?_, fun h3 => ?_⟩
                · rw [if_neg (by unfold ky; omega)] at Kn'; exact Kn'
                · rw [if_pos (by unfold ky; omega)] at Kn'; exact Kn'
        have Lp : ∀ (l : List (Nat → Int32)) (q : Nat → Int32) (d : List (Nat → Int32)), allP g = d ++ q :: l → chn (nxN g 6) (q :: l) → ∀ s4, fm [182] [] s2 s4 → pk s4 q → wX12_conflict_26 Q (l.length + 2) (lsI ((d.map (bb g)).foldl lsM none)) 1 s4 := by
          intro l
          induction l with
          | nil =>
            intro q d hd Cq s4 f4 P4
            have hq : q ∈ allP g := by rw [hd]; simp
            show wX12_conflict_26 Q (1 + 1) (lsI ((d.map (bb g)).foldl lsM none)) 1 s4
            rw [wX12_conflict_26]
            refine ⟨fun h => absurd h (by decide), fun _ => step q d s4 _ hq (fun p hp => by rw [hd]; simp [hp]) f4 P4 ?_⟩
            unfold wX12_conflict_69
            refine m_next (by rw [f4.1 178 (by decide) (by decide)]; exact M3) O hq P4 Cq (fun _ s5 f5 => ?_) (fun q' t' h => by cases h)
            rw [show d ++ [q] = allP g from hd.symm]
            exact fin s5 (f4.tr f5)
          | cons q' l ih =>
            intro q d hd Cq s4 f4 P4
            have hq : q ∈ allP g := by rw [hd]; simp
            show wX12_conflict_26 Q ((l.length + 2) + 1) (lsI ((d.map (bb g)).foldl lsM none)) 1 s4
            rw [wX12_conflict_26]
            refine ⟨fun h => absurd h (by decide), fun _ => step q d s4 _ hq (fun p hp => by rw [hd]; simp [hp]) f4 P4 ?_⟩
            unfold wX12_conflict_69
            refine m_next (by rw [f4.1 178 (by decide) (by decide)]; exact M3) O hq P4 Cq (fun h => by cases h) (fun q'' t' h C2 s5 f5 P5 => ?_)
            cases h
            exact ih q' (d ++ [q]) (by rw [hd]; simp) C2 s5 (f4.tr f5) P5
        refine m_start M3 O (fun h => absurd h h0) (fun q l h Cq s4 f4 P4 => ⟨l.length + 2, ?_⟩)
        exact Lp l q [] h Cq s4 f4 P4
    · refine S_q (L' := L) (r := -2) (WC := wpX11_conflict s) (WM := wpX12_conflict) A C M A.2.1 kk (fun Q k => ?_) (fun s1 M1 Q k => ?_)
      · refine c_cwo O C.2.2.1 ?_
        rw [hza]
        refine ⟨fun _ => ?_, fun h => absurd h h0⟩
        refine c_solved O C.2.2.1 C.2.2.2.1 (fun s1 f1 g1 v1 S1 => ?_)
        rw [show gi s1 38 8 = nI (chs g).length from S1.1, hzc]
        exact ⟨fun h => absurd h hc, fun _ => k s1 (f1.mono sD_q) g1 (sD_r f1 C.2.1) (CV1 v1 S1)⟩
      · refine m_survey (M0 s1 M1) O (by decide) (fun s2 f2 S2 => ?_)
        rw [show gi s2 177 17 = nI (chs g).length from S2.1, hzc]
        exact ⟨fun h => absurd h hc, fun _ => k s2 (m_th.tr (f2.mono (by decide) (by decide))) (M1.2.1.th.cg (f2.2.1 4 (by decide)) (f2.2.2.1 180 (by decide)))⟩
end CONF
