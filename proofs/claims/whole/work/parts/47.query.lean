/-! readings, hull, told -/
section QUERY
variable {t : List Nat} {L : List Int32} {g : Sy} {us : List Sy} {ks : Nat → Option Sy} {s : gS} {Q : Int32 → gS → Prop} {K : gS → Prop}
theorem bts_hi {m n : Nat} {p : Nat → Bool} (h : m ≤ n) (hp : ∀ i, m ≤ i → i < n → p i = false) : bts m p = bts n p := by
  induction n with
  | zero => rw [show m = 0 by omega]
  | succ n ih =>
    by_cases e : m = n + 1
    · rw [e]
    · rw [bts_s, ← ih (by omega) (fun i h1 h2 => hp i h1 (by omega)), hp n (by omega) (by omega)]
      simp
theorem bts_sb {o : Nat} {p : Nat → Bool} (h : o < 31) : nI (bts o p) ||| jshl (bi (p o)) (nI o) = nI (bts (o + 1) p) := by
  rw [bts_s]
  cases hp : p o with
  | true =>
    show nI (bts o p) ||| jshl 1 (nI o) = _
    rw [bts_st h]
    simp
  | false =>
    have h0 : ∀ o, o < 31 → jshl (bi false) (nI o) = 0 := by decide +kernel
    rw [h0 o h]
    simp
theorem or_0 (x : Int32) : x ||| 0 = x := by simp
theorem lf_mn {N e i : Nat} (O : okS N g) (he : e < 6) (h1 : mn g e ≤ i) (h2 : i < 6) : lf g e i = false := by
  cases h : lf g e i with
  | false => rfl
  | true =>
    have := inn_lt (lf_inn he h2 h O)
    omega
theorem inn_mn {e i : Nat} (h1 : mn g e ≤ i) : inn g e i = false := by
  cases h : inn g e i with
  | false => rfl
  | true =>
    have := inn_lt h
    omega
theorem inn_bi {N e i : Nat} (O : okS N g) (he : e < 6) (h : i < mn g e) : g (8 + 5 * (6 * e + i) + 4) = bi (inn g e i) := by
  obtain ⟨-, -, -, -, -, -, -, h8⟩ := O.2.2.2.2 e he i h
  unfold inn
  rcases h8 with h8 | h8 <;> simp [h8, h, bi]
theorem qC_self (C : CI t L g us ks s) {r : Int32} (k : qC g L r s Q) : Q r s := k s fR.rf (fun _ _ => rfl) C.2.1 C.2.2.2.1
theorem RM.th (h : RM L s) : RM L (wi s 177 5 0) := ⟨by rw [wi_ne _ _ _ _ (by decide)]; exact h.1, h.2⟩
theorem qM_th (M : MI t L g us ks s) {r : Int32} (k : qM L r s Q) : Q r (wi s 177 5 0) := k _ m_th M.2.1.th
theorem S_readings {x : Int32} (A : okA t L g us ks) (C : CI t L g us ks s) (M : MI t L g us ks s) (kk : KK t K) : wpX11_readings x s (fun r s1 => wpX12_readings x s1 (eqK K r)) := by
  have O := A.2.2.1.1
  rcases ev_or x 6 (by decide) with ⟨e, he, rfl⟩ | hx
  · cases ht : tl g e with
    | false =>
      refine S_q (L' := L) (r := -2) (WC := wpX11_readings (nI e) s) (WM := wpX12_readings (nI e)) A C M A.2.1 kk (fun Q k => ?_) (fun s1 M1 Q k => ?_)
      · unfold wpX11_readings
        rw [c_isEvent he]
        refine ⟨fun _ => ?_, fun h => absurd h (by decide)⟩
        rw [c_isTold C.2.2.1 he, ht]
        exact ⟨fun h => absurd rfl h, fun _ => qC_self C k⟩
      · unfold wpX12_readings
        rw [m_isEvent he]
        refine ⟨fun _ => ?_, fun h => absurd h (by decide)⟩
        rw [m_isTold (g := g) (by rw [wi_na _ _ _ _ (by decide)]; exact M1.2.2.1) he, ht]
        exact ⟨fun h => absurd rfl h, fun _ => qM_th M1 k⟩
    | true =>
      have hm := (O.2.2.2.1 e he).2
      have hm1 := ((O.2.2.2.1 e he).1 ht).1
      refine S_q (L' := [nI (bts 6 (inn g e)), nI (bts 6 (lf g e))]) (r := nI (mn g e)) (WC := wpX11_readings (nI e) s) (WM := wpX12_readings (nI e)) A C M (by simp) kk (fun Q k => ?_) (fun s1 M1 Q k => ?_)
      · unfold wpX11_readings
        rw [c_isEvent he]
        refine ⟨fun _ => ?_, fun h => absurd h (by decide)⟩
        rw [c_isTold C.2.2.1 he, ht]
        refine ⟨fun _ => ?_, fun h => absurd h (by decide)⟩
        refine c_clear (fun s1 f1 R1 => ?_)
        have r1 : repC (s1.1 (20 + 1)) g := by rw [f1.1 (20 + 1) rfl]; exact C.2.2.1
        rw [c_inBits r1 he]
        refine c_add R1 (by decide) (fun s2 f2 R2 => ?_)
        have r2 : repC (s2.1 (20 + 1)) g := by rw [f2.1 (20 + 1) rfl]; exact r1
        refine c_solved O r2 (rD_v f2 (rD_v f1 C.2.2.2.1)) (fun s3 f3 g3 v3 S3 => ?_)
        refine c_leftBits O S3 he ?_
        refine c_add (sD_r f3 R2) (by simp) (fun s4 f4 R4 => ?_)
        have r4 : repC (s4.1 (20 + 1)) g := by rw [f4.1 (20 + 1) rfl, f3.1 (20 + 1) rfl]; exact r2
        rw [c_size r4 he]
        exact k s4 ((f1.mono rD_q).tr ((f2.mono rD_q).tr ((f3.mono sD_q).tr (f4.mono rD_q)))) (fun j hj => by rw [f4.1 0 rfl, g3 j hj, f2.1 0 rfl, f1.1 0 rfl]) R4 (CV1 (by rw [f4.1 0 rfl]; exact v3) (rD_s f4 S3))
      · unfold wpX12_readings
        rw [m_isEvent he]
        have M2 : (wi s1 177 5 0).1 178 = g := by rw [wi_na _ _ _ _ (by decide)]; exact M1.2.2.1
        refine ⟨fun _ => ?_, fun h => absurd h (by decide)⟩
        rw [m_isTold M2 he, ht]
        refine ⟨fun _ => ?_, fun h => absurd h (by decide)⟩
        refine m_survey M2 O (by decide) (fun s2 f2 S2 => ⟨mn g e + 1, ?_⟩)
        have M3 : s2.1 178 = g := by rw [f2.1 178 (by decide) (by decide)]; exact M2
        have e1 : 2 + nI e = nI (2 + e) := nI_add 2 e
        have e2 : gi s2 178 (2 + e) = nI (mn g e) := by rw [← hm1, ← M3]; rfl
        have Lp : ∀ n i, i + n = mn g e → wX12_readings_37 (nI e) Q (n + 1) (nI (bts i (inn g e))) (nI (bts i (lf g e))) (nI i) s2 := by
          intro n
          induction n with
          | zero =>
            intro i hi
            have : i = mn g e := by omega
            subst this
            rw [wX12_readings_37]
            simp only [e1, ix_nI (show 2 + e < 2 ^ 31 by omega), e2, vp_in_nI (show 2 + e < 218 by omega) (show 218 < 2 ^ 31 by decide), true_and]
            refine ⟨fun _ => ?_, fun h => absurd (nI_le (Nat.le_refl _) (by omega)) h⟩
            refine m_tell m_new (by decide) (fun s3 f3 R3 => ?_)
            refine m_tell R3 (by simp) (fun s4 f4 R4 => ?_)
            rw [show gi s4 178 (2 + e) = nI (mn g e) from by
              rw [← hm1, ← M3]
              show s4.1 178 _ = _
              rw [f4.1 178 (by decide) (by decide), f3.1 178 (by decide) (by decide), wi_na _ _ _ _ (by decide)]]
            rw [bts_hi (n := 6) hm (fun i h1 _ => inn_mn h1), bts_hi (n := 6) hm (fun i h1 h2 => lf_mn O he h1 h2)] at R4
            exact k s4 (m_th.tr ((f2.mono (by decide) (by decide)).tr (m_rw.tr ((f3.tr f4).mono (by decide) (by decide))))) R4
          | succ n ih =>
            intro i hi
            have hle : (nI (mn g e) ≤ nI i) = False := by
              rw [nI_leI (by omega) (by omega)]
              simp; omega
            have := ih (i + 1) (by omega)
            rw [wX12_readings_37]
            simp only [e1, ix_nI (show 2 + e < 2 ^ 31 by omega), e2, vp_in_nI (show 2 + e < 218 by omega) (show 218 < 2 ^ 31 by decide), true_and, hle, false_implies, not_false_eq_true, true_implies, show (4 : Int32) = nI 4 from rfl, m_of M3 he (show i < 6 by omega) (show 4 < 5 by decide), inn_bi O he (show i < mn g e by omega), m_isLeft O S2 he (show i < 6 by omega), bi_0, bts_sb (show i < 31 by omega), bts_st (show i < 31 by omega), or_0, nI_1]
            rw [bts_s i (lf g e)] at this
            cases hl : lf g e i with
            | false =>
              rw [hl] at this
              exact ⟨fun _ => by simpa using this, fun h => absurd rfl h⟩
            | true =>
              rw [hl] at this
              exact ⟨fun h => (by cases h), fun _ => by simpa using this⟩
        exact Lp (mn g e) 0 (by omega)
  · refine S_q (L' := L) (r := -1) (WC := wpX11_readings x s) (WM := wpX12_readings x) A C M A.2.1 kk (fun Q k => ?_) (fun s1 M1 Q k => ?_)
    · unfold wpX11_readings
      rw [c_isEvent0 hx]
      exact ⟨fun h => absurd rfl h, fun _ => qC_self C k⟩
    · unfold wpX12_readings
      rw [m_isEvent0 hx]
      exact ⟨fun h => absurd rfl h, fun _ => qM_th M1 k⟩
/-- from and to of what is left -/
def hF (g : Sy) (e : Nat) (z : Int) : Nat → Int
  | 0 => z
  | n + 1 => if lf g e n then min (hF g e z n) (vl g e n 0) else hF g e z n
def hT (g : Sy) (e : Nat) (z : Int) : Nat → Int
  | 0 => z
  | n + 1 => if lf g e n then max (hT g e z n) (vl g e n 1) else hT g e z n
theorem h_eq {e : Nat} (O : okS 10 g) (he : e < 6) : ∀ n, n ≤ 6 → (0 ≤ hF g e 9999 n ∧ hF g e 9999 n ≤ 9999 ∧ 0 ≤ hT g e 0 n ∧ hT g e 0 n ≤ 9999) ∧ ((hT g e (-1) n = -1 ∧ hF g e 10000 n = 10000 ∧ (∀ i, i < n → lf g e i = false) ∧ hF g e 9999 n = 9999 ∧ hT g e 0 n = 0) ∨ (hF g e 9999 n = hF g e 10000 n ∧ hT g e 0 n = hT g e (-1) n ∧ 0 ≤ hT g e (-1) n ∧ ∃ i, i < n ∧ lf g e i = true)) := by
  intro n
  induction n with
  | zero => intro _; exact ⟨by simp [hF, hT], Or.inl ⟨rfl, rfl, fun i h => by omega, rfl, rfl⟩⟩
  | succ n ih =>
    intro hn
    obtain ⟨b, h⟩ := ih (by omega)
    cases hl : lf g e n with
    | false =>
      simp only [hF, hT, hl]
      refine ⟨b, h.imp (fun h => ⟨h.1, h.2.1, fun i hi => ?_, h.2.2.2⟩) (fun h => ⟨h.1, h.2.1, h.2.2.1, ?_⟩)⟩
      · by_cases hin : i = n
        · subst hin; exact hl
        · exact h.2.2.1 i (by omega)
      · obtain ⟨i, h1, h2⟩ := h.2.2.2
        exact ⟨i, by omega, h2⟩
    | true =>
      obtain ⟨r1, r2⟩ := okS_r O he (inn_lt (lf_inn he (by omega) hl O))
      simp only [hF, hT, hl, if_true]
      refine ⟨by omega, Or.inr ⟨?_, ?_, ?_, n, by omega, hl⟩⟩
      · rcases h with h | h <;> omega
      · rcases h with h | h <;> omega
      · omega
theorem S_hull {x : Int32} (A : okA t L g us ks) (C : CI t L g us ks s) (M : MI t L g us ks s) (kk : KK t K) : wpX11_hull x s (fun r s1 => wpX12_hull x s1 (eqK K r)) := by
  have O := A.2.2.1.1
  rcases ev_or x 6 (by decide) with ⟨e, he, rfl⟩ | hx
  · obtain ⟨hb, hq⟩ := h_eq O he 6 (Nat.le_refl _)
    have hz : (nI (bts 6 (lf g e)) = 0) = (hT g e (-1) 6 = -1) := by
      rw [bz6]
      apply propext
      rcases hq with h | h
      · exact ⟨fun _ => h.1, fun _ => h.2.2.1⟩
      · obtain ⟨i, h1, h2⟩ := h.2.2.2
        refine ⟨fun h3 => ?_, fun h3 => ?_⟩
        · rw [h3 i h1] at h2; cases h2
        · omega
    refine S_q (L' := if hT g e (-1) 6 = -1 then L else [iI (hF g e 9999 6), iI (hT g e 0 6)]) (r := if hT g e (-1) 6 = -1 then -2 else iI (hT g e 0 6 - hF g e 9999 6 + 1)) (WC := wpX11_hull (nI e) s) (WM := wpX12_hull (nI e)) A C M (by split; exact A.2.1; simp) kk (fun Q k => ?_) (fun s1 M1 Q k => ?_)
    · unfold wpX11_hull
      rw [c_isEvent he]
      refine ⟨fun _ => ?_, fun h => absurd h (by decide)⟩
      refine c_solved O C.2.2.1 C.2.2.2.1 (fun s1 f1 g1 v1 S1 => ?_)
      refine c_leftBits O S1 he ?_
      rw [hz]
      refine ⟨fun h => ?_, fun h => ?_⟩
      · rw [if_neg h, if_neg h] at k
        have R1 : repC (s1.1 (20 + 1)) g := by rw [f1.1 (20 + 1) rfl]; exact C.2.2.1
        have Lp : ∀ n i, i + n = 6 → wX11_hull_35 (nI e) Q (n + 1) (nI (bts 6 (lf g e))) (iI (hF g e 9999 i)) (iI (hT g e 0 i)) (nI i) s1 := by
          intro n
          induction n with
          | zero =>
            intro i hi
            have : i = 6 := by omega
            subst this
            rw [wX11_hull_35]
            refine ⟨fun _ => ?_, fun h => absurd (by decide) h⟩
            refine c_clear (fun s2 f2 R2 => c_add R2 (by decide) (fun s3 f3 R3 => c_add R3 (by simp) (fun s4 f4 R4 => ?_)))
            rw [iI_sub, show (1 : Int32) = iI 1 from rfl, iI_add]
            have f5 := f2.tr (f3.tr f4)
            exact k s4 ((f1.mono sD_q).tr (f5.mono rD_q)) (fun j hj => by rw [f5.1 0 rfl, g1 j hj]) R4 (CV1 (by rw [f5.1 0 rfl]; exact v1) (rD_s f5 S1))
          | succ n ih =>
            intro i hi
            have hi6 : i < 6 := by omega
            have := ih (i + 1) (by omega)
            obtain ⟨hb2, -⟩ := h_eq O he i (by omega)
            rw [wX11_hull_35, c_hasBit hi6, nI_1]
            simp only [ge6 hi6, bi_0, false_implies, true_and, not_false_eq_true, true_implies]
            cases hl : lf g e i with
            | false =>
              simp only [hF, hT, hl] at this
              exact ⟨fun _ => this, fun h => absurd rfl h⟩
            | true =>
              simp only [hF, hT, hl, if_true] at this
              have him := inn_lt (lf_inn he hi6 hl O)
              obtain ⟨r1, r2⟩ := okS_r O he him
              refine ⟨fun h => (by cases h), fun _ => ?_⟩
              rw [c_vA0 he hi6, c_vA1 he hi6, c_v0 R1 he him, c_v1 R1 he him, iI_min (by omega) (by omega) (by omega) (by omega), iI_max (by omega) (by omega) (by omega) (by omega)]
              exact this
        exact ⟨7, Lp 6 0 rfl⟩
      · rw [if_pos h, if_pos h] at k
        exact k s1 (f1.mono sD_q) g1 (sD_r f1 C.2.1) (CV1 v1 S1)
    · unfold wpX12_hull
      rw [m_isEvent he]
      refine ⟨fun _ => ?_, fun h => absurd h (by decide)⟩
      have M2 : (wi s1 177 5 0).1 178 = g := by rw [wi_na _ _ _ _ (by decide)]; exact M1.2.2.1
      refine m_survey M2 O (by decide) (fun s2 f2 S2 => ⟨7, ?_⟩)
      have M3 : s2.1 178 = g := by rw [f2.1 178 (by decide) (by decide)]; exact M2
      have f0 : fm mD mF s1 s2 := m_th.tr (f2.mono (by decide) (by decide))
      have hbd : ∀ n, n ≤ 6 → (0 ≤ hF g e 10000 n ∧ hF g e 10000 n ≤ 10000) ∧ (-1 ≤ hT g e (-1) n ∧ hT g e (-1) n ≤ 9999) := by
        intro n hn
        obtain ⟨b, h⟩ := h_eq O he n hn
        rcases h with h | h <;> omega
      have Lp : ∀ n i, i + n = 6 → wX12_hull_28 (nI e) Q (n + 1) (iI (hF g e 10000 i)) (iI (hT g e (-1) i)) (nI i) s2 := by
        intro n
        induction n with
        | zero =>
          intro i hi
          have : i = 6 := by omega
          subst this
          rw [wX12_hull_28]
          refine ⟨fun _ => ?_, fun h => absurd (by decide) h⟩
          obtain ⟨hb1, hb2⟩ := hbd 6 (Nat.le_refl _)
          rw [show (-1 : Int32) = iI (-1) from rfl, iI_eq (by omega) (by omega) (by decide) (by decide)]
          refine ⟨fun h => ?_, fun h => ?_⟩
          · rw [if_neg h, if_neg h] at k
            have hq2 := hq.resolve_left (fun h2 => h h2.1)
            rw [hq2.1, hq2.2.1] at k
            refine m_tell m_new (by decide) (fun s3 f3 R3 => m_tell R3 (by simp) (fun s4 f4 R4 => ?_))
            rw [iI_sub, show (1 : Int32) = iI 1 from rfl, iI_add]
            exact k s4 (f0.tr (m_rw.tr ((f3.tr f4).mono (by decide) (by decide)))) R4
          · rw [if_pos h, if_pos h] at k
            refine k s2 f0 ⟨?_, fun i hi => ?_⟩
            · rw [f2.2.1 4 (by decide), wi_ne _ _ _ _ (by decide)]; exact M1.2.1.1
            · rw [f2.2.2.1 180 (by decide)]; exact M1.2.1.2 i hi
        | succ n ih =>
          intro i hi
          have hi6 : i < 6 := by omega
          have := ih (i + 1) (by omega)
          obtain ⟨hb1, hb2⟩ := hbd i (by omega)
          rw [wX12_hull_28, m_isLeft O S2 he hi6, nI_1]
          simp only [ge6 hi6, bi_0, false_implies, true_and, not_false_eq_true, true_implies]
          cases hl : lf g e i with
          | false =>
            simp only [hF, hT, hl] at this
            exact ⟨fun h => absurd rfl h, fun _ => this⟩
          | true =>
            simp only [hF, hT, hl, if_true] at this
            have him := inn_lt (lf_inn he hi6 hl O)
            obtain ⟨r1, r2⟩ := okS_r O he him
            refine ⟨fun _ => ?_, fun h => (by cases h)⟩
            rw [show wpX12_of (nI e) (nI i) 0 s2 = wpX12_of (nI e) (nI i) (nI 0) s2 from rfl, m_ofv M3 he hi6 (by decide), show wpX12_of (nI e) (nI i) 1 s2 = wpX12_of (nI e) (nI i) (nI 1) s2 from rfl, m_ofv M3 he hi6 (by decide), iI_min (by omega) (by omega) (by omega) (by omega), iI_max (by omega) (by omega) (by omega) (by omega)]
            exact this
      exact Lp 6 0 rfl
  · refine S_q (L' := L) (r := -1) (WC := wpX11_hull x s) (WM := wpX12_hull x) A C M A.2.1 kk (fun Q k => ?_) (fun s1 M1 Q k => ?_)
    · unfold wpX11_hull
      rw [c_isEvent0 hx]
      exact ⟨fun h => absurd rfl h, fun _ => qC_self C k⟩
    · unfold wpX12_hull
      rw [m_isEvent0 hx]
      exact ⟨fun h => absurd rfl h, fun _ => qM_th M1 k⟩
end QUERY
