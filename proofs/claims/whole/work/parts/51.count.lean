/-! count, reading, row -/
section QUERY
variable {t : List Nat} {L : List Int32} {g : Sy} {us : List Sy} {ks : Nat → Option Sy} {s : gS} {Q : Int32 → gS → Prop} {K : gS → Prop}
def sE (f : Nat → Nat) : Nat → Nat
  | 0 => 0
  | n + 1 => sE f n + f n
theorem c_rdAll (R : repC (s.1 21) g) (k : Q (nI (sE (mn g) 6)) s) : wpX8_readingsOfAll 20 s Q := by
  have Lp : ∀ n e, e + n = 6 → wX8_readingsOfAll_4 20 Q (n + 1) (nI (sE (mn g) e)) (nI e) s := by
    intro n
    induction n with
    | zero =>
      intro e he
      have : e = 6 := by omega
      subst this
      rw [wX8_readingsOfAll_4]
      exact ⟨fun _ => k, fun h => absurd (by decide) h⟩
    | succ n ih =>
      intro e he
      have he6 : e < 6 := by omega
      rw [wX8_readingsOfAll_4]
      refine ⟨fun h => absurd h (by rw [ge6 he6]; exact id), fun _ => ?_⟩
      rw [c_size R he6, nI_add, nI_1]
      exact ih (e + 1) (by omega)
  exact ⟨7, Lp 6 0 rfl⟩
theorem c_inAll (R : repC (s.1 21) g) (k : Q (nI (sE (fun e => cnt 6 (inn g e)) 6)) s) : wpX8_inOfAll 20 s Q := by
  have Lp : ∀ n e, e + n = 6 → wX8_inOfAll_4 20 Q (n + 1) (nI (sE (fun e => cnt 6 (inn g e)) e)) (nI e) s := by
    intro n
    induction n with
    | zero =>
      intro e he
      have : e = 6 := by omega
      subst this
      rw [wX8_inOfAll_4]
      exact ⟨fun _ => k, fun h => absurd (by decide) h⟩
    | succ n ih =>
      intro e he
      have he6 : e < 6 := by omega
      rw [wX8_inOfAll_4]
      refine ⟨fun h => absurd h (by rw [ge6 he6]; exact id), fun _ => ?_⟩
      rw [c_inBits R he6, pop_6, nI_add, nI_1]
      exact ih (e + 1) (by omega)
  exact ⟨7, Lp 6 0 rfl⟩
theorem m_toldBits (M : s.1 178 = g) (k : Q (nI (bts 6 (tl g))) s) : wpX12_toldBits s Q := by
  have Lp : ∀ n e, e + n = 6 → wX12_toldBits_4 Q (n + 1) (nI (bts e (tl g))) (nI e) s := by
    intro n
    induction n with
    | zero =>
      intro e he
      have : e = 6 := by omega
      subst this
      rw [wX12_toldBits_4]
      exact ⟨fun _ => k, fun h => absurd (by decide) h⟩
    | succ n ih =>
      intro e he
      have he6 : e < 6 := by omega
      have := ih (e + 1) (by omega)
      rw [bts_s] at this
      rw [wX12_toldBits_4, m_isTold M he6, or_0, bts_st (by omega), nI_1]
      simp only [ge6 he6, bi_0, false_implies, true_and, not_false_eq_true, true_implies]
      cases ht : tl g e with
      | false =>
        rw [ht] at this
        exact ⟨fun _ => by simpa using this, fun h => absurd rfl h⟩
      | true =>
        rw [ht] at this
        exact ⟨fun h => (by cases h), fun _ => by simpa using this⟩
  exact ⟨7, Lp 6 0 rfl⟩
theorem mny {e : Nat} (O : okS 10 g) (he : e < 6) : (g (2 + e) = -1 ∧ mn g e = 0) ∨ (g (2 + e) = nI (mn g e) ∧ mn g e ≤ 6) := by
  cases ht : tl g e with
  | false =>
    refine Or.inl ⟨?_, mn_nt ht⟩
    unfold tl at ht
    simpa using ht
  | true => exact Or.inr ⟨((O.2.2.2.1 e he).1 ht).1, (O.2.2.2.1 e he).2⟩
theorem m_rdAll (M : s.1 178 = g) (O : okS 10 g) (k : Q (nI (sE (mn g) 6)) s) : wpX12_readingMany s Q := by
  have Lp : ∀ n e, e + n = 6 → wX12_readingMany_4 Q (n + 1) (nI (sE (mn g) e)) (nI e) s := by
    intro n
    induction n with
    | zero =>
      intro e he
      have : e = 6 := by omega
      subst this
      rw [wX12_readingMany_4]
      exact ⟨fun _ => k, fun h => absurd (by decide) h⟩
    | succ n ih =>
      intro e he
      have he6 : e < 6 := by omega
      rw [wX12_readingMany_4]
      refine ⟨fun h => absurd h (by rw [ge6 he6]; exact id), fun _ => ?_⟩
      have e1 : 2 + nI e = nI (2 + e) := nI_add 2 e
      have e2 : jmax 0 (gi s 178 (2 + e)) = nI (mn g e) := by
        rw [show gi s 178 (2 + e) = g (2 + e) from congrFun M _]
        rcases mny O he6 with ⟨h1, h2⟩ | ⟨h1, h2⟩
        · rw [h1, h2]; decide
        · rw [h1, show (0 : Int32) = iI 0 from rfl, nI_i, iI_max (by decide) (by decide) (by omega) (by omega)]
          congr 1
      rw [e1, ix_nI (by omega), e2, nI_add, nI_1]
      exact ⟨vp_in_nI (by omega) (by decide), ih (e + 1) (by omega)⟩
  exact ⟨7, Lp 6 0 rfl⟩
theorem m_inMany {e : Nat} (M : s.1 178 = g) (O : okS 10 g) (he : e < 6) (k : Q (nI (cnt 6 (inn g e))) s) : wpX12_inMany (nI e) s Q := by
  have e1 : 2 + nI e = nI (2 + e) := nI_add 2 e
  have hm := (O.2.2.2.1 e he).2
  have hk : cnt 6 (inn g e) = cnt (mn g e) (inn g e) := cnt_lt hm (fun i hi => inn_mn hi)
  rw [hk] at k
  have e2 : gi s 178 (2 + e) = g (2 + e) := congrFun M _
  have Lp : ∀ n i, i + n = mn g e → wX12_inMany_4 (nI e) Q (n + 1) (nI (cnt i (inn g e))) (nI i) s := by
    intro n
    induction n with
    | zero =>
      intro i hi
      have : i = mn g e := by omega
      subst this
      rw [wX12_inMany_4, e1, ix_nI (by omega), e2]
      refine ⟨vp_in_nI (by omega) (by decide), fun _ => k, fun h => ?_⟩
      rcases mny O he with ⟨h1, h2⟩ | ⟨h1, h2⟩
      · rw [h1, h2] at h; exact absurd (by decide) h
      · rw [h1] at h; exact absurd (nI_le (Nat.le_refl _) (by omega)) h
    | succ n ih =>
      intro i hi
      rw [wX12_inMany_4, e1, ix_nI (by omega), e2]
      refine ⟨vp_in_nI (by omega) (by decide), fun h => ?_, fun _ => ?_⟩
      · rcases mny O he with ⟨h1, h2⟩ | ⟨h1, h2⟩
        · omega
        · rw [h1, nI_leI (by omega) (by omega)] at h; omega
      · rw [show wpX12_of (nI e) (nI i) 4 s = wpX12_of (nI e) (nI i) (nI 4) s from rfl, m_of M he (by omega) (by decide), inn_bi O he (by omega), nI_1]
        have := ih (i + 1) (by omega)
        rw [cnt_s] at this
        cases hi2 : inn g e i with
        | false => rw [hi2] at this; simpa [bi] using this
        | true =>
          rw [hi2] at this
          show wX12_inMany_4 (nI e) Q (n + 1) (nI (cnt i (inn g e)) + 1) (nI (i + 1)) s
          rw [nI_1]
          simpa using this
  exact ⟨mn g e + 1, Lp (mn g e) 0 (by omega)⟩
theorem m_inAll (M : s.1 178 = g) (O : okS 10 g) (k : Q (nI (sE (fun e => cnt 6 (inn g e)) 6)) s) : wpX12_inAll s Q := by
  have Lp : ∀ n e, e + n = 6 → wX12_inAll_4 Q (n + 1) (nI (sE (fun e => cnt 6 (inn g e)) e)) (nI e) s := by
    intro n
    induction n with
    | zero =>
      intro e he
      have : e = 6 := by omega
      subst this
      rw [wX12_inAll_4]
      exact ⟨fun _ => k, fun h => absurd (by decide) h⟩
    | succ n ih =>
      intro e he
      have he6 : e < 6 := by omega
      rw [wX12_inAll_4]
      refine ⟨fun h => absurd h (by rw [ge6 he6]; exact id), fun _ => m_inMany M O he6 ?_⟩
      rw [nI_add, nI_1]
      exact ih (e + 1) (by omega)
  exact ⟨7, Lp 6 0 rfl⟩
def cntR (t : List Nat) (L : List Int32) (g : Sy) (us : List Sy) (x : Int32) : Int32 := if x = 0 then nI (bts 6 (tl g)) else if x = 1 then nI (no g) else if x = 2 then g 0 else if x = 3 then nI (sE (mn g) 6) else if x = 4 then nI (sE (fun e => cnt 6 (inn g e)) 6) else if x = 5 then nI (lal g 6) else if x = 6 then nI us.length else if x = 7 then nI L.length else if x = 8 then nI t.length else -1
theorem S_count {x : Int32} (A : okA t L g us ks) (C : CI t L g us ks s) (M : MI t L g us ks s) (kk : KK t K) : wpX11_count x s (fun r s1 => wpX12_count x s1 (eqK K r)) := by
  have O := A.2.2.1.1
  refine S_q (L' := L) (r := cntR t L g us x) (WC := wpX11_count x s) (WM := wpX12_count x) A C M A.2.1 kk (fun Q k => ?_) (fun s1 M1 Q k => ?_)
  · have k0 := qC_self C k
    unfold wpX11_count
    refine ⟨fun h => ?_, fun h => ?_, fun h => ?_, fun h => ?_, fun h => ?_, fun h => ?_, fun h => ?_, fun h => ?_, fun h => ?_, fun h0 h1 h2 h3 h4 h5 h6 h7 h8 => ?_⟩
    · subst h
      unfold wpX8_toldBits
      rw [show gi s (20 + 1) 1 = nI (bts 6 (tl g)) from C.2.2.1.2.2.1]
      exact k0
    · subst h
      rw [c_orders O C.2.2.1]
      exact k0
    · subst h
      unfold wpX8_refDay
      rw [show gi s (20 + 1) 0 = g 0 from C.2.2.1.1]
      exact k0
    · subst h; exact c_rdAll C.2.2.1 k0
    · subst h; exact c_inAll C.2.2.1 k0
    · subst h
      refine c_solved O C.2.2.1 C.2.2.2.1 (fun s1 f1 g1 v1 S1 => c_leftOfAll O S1 ?_)
      exact k s1 (f1.mono sD_q) g1 (sD_r f1 C.2.1) (CV1 v1 S1)
    · subst h
      rw [show gi s 25 2 = nI us.length from C.2.2.2.2.1.1]
      exact k0
    · subst h
      rw [show gi s 18 1 = nI L.length from C.2.1.1]
      exact k0
    · subst h
      rw [show gi s 1 1 = nI t.length from C.1.1]
      exact k0
    · unfold cntR at k0
      rw [if_neg h0, if_neg h1, if_neg h2, if_neg h3, if_neg h4, if_neg h5, if_neg h6, if_neg h7, if_neg h8] at k0
      exact k0
  · have k0 := qM_th M1 k
    have M2 : (wi s1 177 5 0).1 178 = g := by rw [wi_na _ _ _ _ (by decide)]; exact M1.2.2.1
    have hf : ∀ j, j ≠ 5 → gi (wi s1 177 5 0) 177 j = s1.1 177 j := fun j hj => wi_ne _ _ _ _ hj
    unfold wpX12_count
    refine ⟨fun h => ?_, fun h => ?_, fun h => ?_, fun h => ?_, fun h => ?_, fun h => ?_, fun h => ?_, fun h => ?_, fun h => ?_, fun h0 h1 h2 h3 h4 h5 h6 h7 h8 => ?_⟩
    · subst h; exact m_toldBits M2 k0
    · subst h
      rw [show gi (wi s1 177 5 0) 178 1 = nI (no g) from by rw [← O.2.1.1, ← M2]; rfl]
      exact k0
    · subst h
      rw [show gi (wi s1 177 5 0) 178 0 = g 0 from by rw [← M2]; rfl]
      exact k0
    · subst h; exact m_rdAll M2 O k0
    · subst h; exact m_inAll M2 O k0
    · subst h
      refine m_survey M2 O (by decide) (fun s2 f2 S2 => m_leftAll O S2 ?_)
      refine k s2 (m_th.tr (f2.mono (by decide) (by decide))) ⟨?_, fun i hi => ?_⟩
      · rw [f2.2.1 4 (by decide), wi_ne _ _ _ _ (by decide)]; exact M1.2.1.1
      · rw [f2.2.2.1 180 (by decide)]; exact M1.2.1.2 i hi
    · subst h
      rw [hf 26 (by decide), M1.2.2.2.1.1]
      exact k0
    · subst h
      rw [hf 4 (by decide), M1.2.1.1]
      exact k0
    · subst h
      rw [hf 2 (by decide), show s1.1 177 2 = nI t.length from M1.1.1]
      exact k0
    · unfold cntR at k0
      rw [if_neg h0, if_neg h1, if_neg h2, if_neg h3, if_neg h4, if_neg h5, if_neg h6, if_neg h7, if_neg h8] at k0
      exact k0
/-- reading and row: what is thrown -/
theorem CI.lo {v : Int64} (C : CI t L g us ks s) : CI t L g us ks (wl s 192 0 v) := C
theorem MI.lo {v : Int64} (M : MI t L g us ks s) : MI t L g us ks (wl s 192 0 v) := by
  obtain ⟨h1, h2, h3, h4, h5⟩ := M
  refine ⟨h1, ⟨h2.1, fun i hi => ?_⟩, h3, h4, h5⟩
  show gl (wl s 192 0 v) 180 i = _
  rw [gl_wl, if_neg (fun e => absurd e.1 (by decide))]
  exact h2.2 i hi
theorem lg_same (x : Int64) : lg_cmp x x = 0 := by
  unfold lg_cmp
  simp
def thK (K : gS → Prop) (r52 : Int32) : Int64 → gS → Prop := fun r56 s56 => wpX12_thrown s56 (fun r57 s57 => (r57 = r52 → (¬ r52 = 0 → K s57) ∧ (r52 = 0 → ((lg_cmp (gl s57 192 0) r56) = 0 → K s57) ∧ (¬ ((lg_cmp (gl s57 192 0) r56) = 0) → False))) ∧ (¬ (r57 = r52) → False))
theorem th_1 {s1 s2 : gS} {r : Int64} (A : okA t L g us ks) (C : CI t L g us ks s1) (M : MI t L g us ks s1) (kk : KK t K) (f : fm mD mF s1 s2) (R : RM L s2) (h : s2.1 177 5 = 1) : thK K 1 r s2 := by
  unfold thK wpX12_thrown
  refine ⟨fun _ => ⟨fun _ => kk t L g us ks s2 (by omega) A (C.mo (f.mo (by decide))) (M.q f R), fun h => absurd h (by decide)⟩, fun hh => hh h⟩
theorem th_0 {s1 s2 : gS} {r : Int64} (A : okA t L g us ks) (C : CI t L g us ks s1) (M : MI t L g us ks s1) (kk : KK t K) (f : fm mD mF s1 s2) (R : RM L s2) (h : s2.1 177 5 = 0) (hr : s1.2.1 192 0 = r) : thK K 0 r s2 := by
  unfold thK wpX12_thrown
  have e : gl s2 192 0 = r := by
    show s2.2.1 192 0 = r
    rw [f.2.2.1 192 (by decide)]
    exact hr
  dsimp only
  rw [e, lg_same]
  refine ⟨fun _ => ⟨fun h => absurd rfl h, fun _ => ⟨fun _ => kk t L g us ks s2 (by omega) A (C.mo (f.mo (by decide))) (M.q f R), fun h => absurd rfl h⟩⟩, fun hh => hh h⟩
theorem S_row {ga : Nat} {x : Int32} (hg : 1 ≤ ga) (A : okA t L g us ks) (C : CI t L g us ks s) (M : MI t L g us ks s) (kk : KK t K) : wpL_row ga x s (fun r s1 => wpX12_row x s1 (thK K r)) := by
  have hl := A.2.1
  refine ⟨hg, ?_⟩
  unfold wxX11_row
  have e1 : gi s 18 1 = nI L.length := C.2.1.1
  rw [e1]
  rcases ev_or x L.length (by omega) with ⟨i, hi, rfl⟩ | hx
  · refine ⟨fun h => absurd h (nI_pos (by omega)), fun _ => ⟨fun _ => ?_, fun h => absurd (nI_lt hi (by omega)) h⟩⟩
    unfold wpX6_numberAt
    have h24 : ¬ 24 ≤ nI i := by
      rw [show (24 : Int32) = nI 24 from rfl, nI_leI (by decide) (by omega)]
      omega
    have hle : ¬ nI L.length ≤ nI i := by
      rw [nI_leI (by omega) (by omega)]
      omega
    rw [e1]
    refine ⟨fun h => absurd h (nI_pos (by omega)), fun _ => ⟨fun h => absurd h hle, fun _ => ⟨fun h => absurd h h24, fun _ => ⟨vp_in_nI (by omega) (by decide), ?_⟩⟩⟩⟩
    rw [ix_nI (by omega), show gi s 19 i = L.getD i 0 from C.2.1.2.2 i hi]
    show wpX12_row (nI i) (wl s 192 0 (L.getD i 0).toInt64) (thK K 0)
    unfold wpX12_row
    have M1 : MI t L g us ks (wl s 192 0 (L.getD i 0).toInt64) := M.lo
    rw [show gi (wi (wl s 192 0 (L.getD i 0).toInt64) 177 5 0) 177 4 = nI L.length from by
      show (wi (wl s 192 0 (L.getD i 0).toInt64) 177 5 0).1 177 4 = _
      rw [wi_ne _ _ _ _ (by decide)]; exact M1.2.1.1, m_in0 (by omega), or_in hi (by omega)]
    refine ⟨fun h => absurd h (by decide), fun _ => ⟨vp_in_nI (by omega) (by decide), ?_⟩⟩
    rw [ix_nI (by omega)]
    refine th_0 (s1 := wl s 192 0 (L.getD i 0).toInt64) A C.lo M1 kk m_th M1.2.1.th (wi_at _ _ _ _) ?_
    show gl (wl s 192 0 (L.getD i 0).toInt64) 192 0 = gl (wl s 192 0 (L.getD i 0).toInt64) 180 i
    rw [gl_wl, if_pos ⟨rfl, rfl⟩]
    exact (M1.2.1.2 i hi).symm
  · have go : wpX12_row x s (thK K 1) := by
      unfold wpX12_row
      rw [show gi (wi s 177 5 0) 177 4 = nI L.length from by
        show (wi s 177 5 0).1 177 4 = _
        rw [wi_ne _ _ _ _ (by decide)]; exact M.2.1.1, m_in0 (by omega), or_out hx]
      refine ⟨fun _ => ?_, fun h => absurd rfl h⟩
      refine th_1 A C M kk (m_th.tr (fm_wf (by decide))) ⟨?_, M.2.1.2⟩ (wi_at _ _ _ _)
      rw [wi_ne _ _ _ _ (by decide), wi_ne _ _ _ _ (by decide)]; exact M.2.1.1
    refine ⟨fun _ => go, fun h => ⟨fun h2 => ?_, fun _ => go⟩⟩
    rcases hx with hx | hx
    · exact absurd hx h
    · exact absurd h2 (by simpa using hx)
theorem S_reading {ga : Nat} {x y w : Int32} (hg : 1 ≤ ga) (A : okA t L g us ks) (C : CI t L g us ks s) (M : MI t L g us ks s) (kk : KK t K) : wpL_reading ga x y w s (fun r s1 => wpX12_reading x y w s1 (fun r' s2 => thK K r r'.toInt64 s2)) := by
  have O := A.2.2.1.1
  refine ⟨hg, ?_⟩
  unfold wxX11_reading
  have R := C.2.2.1
  have M0 : ∀ s1, MI t L g us ks s1 → (wi s1 177 5 0).1 178 = g := fun s1 h => by rw [wi_na _ _ _ _ (by decide)]; exact h.2.2.1
  have lost : ∀ (Q : Int32 → gS → Prop), Q 0 (wi (wi s 177 5 0) 177 5 1) → wX12_reading_33 x y w Q (wi s 177 5 0) := fun Q h => h
  have bad : thK K 1 (0 : Int32).toInt64 (wi (wi s 177 5 0) 177 5 1) := th_1 A C M kk (m_th.tr (fm_wf (by decide))) ⟨by rw [wi_ne _ _ _ _ (by decide), wi_ne _ _ _ _ (by decide)]; exact M.2.1.1, M.2.1.2⟩ (wi_at _ _ _ _)
  rcases ev_or x 6 (by decide) with ⟨e, he, rfl⟩ | hx
  · rw [c_has R he]
    have hm := (O.2.2.2.1 e he).2
    -- the reference's isReading
    have hrd : ∀ (s1 : gS) (Q : Int32 → gS → Prop), MI t L g us ks s1 → Q (bi (hs g e y)) (wi s1 177 5 0) → wpX12_isReading (nI e) y (wi s1 177 5 0) Q := by
      intro s1 Q M1 k
      unfold wpX12_isReading
      rw [m_isTold (M0 s1 M1) he]
      cases ht : tl g e with
      | false =>
        have : hs g e y = false := by
          unfold hs
          rw [mn_nt ht]
          by_cases h : 0 ≤ y
          · have : ¬ y < nI 0 := Int32.not_lt.mpr h
            simp [this]
          · simp [h]
        rw [this] at k
        exact ⟨fun _ => k, fun h => absurd rfl h⟩
      | true =>
        refine ⟨fun h => absurd h (by decide), fun _ => ?_⟩
        have e1 : 2 + nI e = nI (2 + e) := nI_add 2 e
        have e2 : gi (wi s1 177 5 0) 178 (2 + e) = nI (mn g e) := by
          rw [← ((O.2.2.2.1 e he).1 ht).1, ← M0 s1 M1]; rfl
        rw [e1, ix_nI (by omega), e2, m_in0 (by omega)]
        refine ⟨vp_in_nI (by omega) (by decide), ?_⟩
        show (bi (hs g e y) = 0 → _) ∧ (¬ bi (hs g e y) = 0 → _)
        cases hh2 : hs g e y with
        | false => rw [hh2] at k; exact ⟨fun _ => k, fun h => absurd rfl h⟩
        | true => rw [hh2] at k; exact ⟨fun h => absurd h (by decide), fun _ => k⟩
    cases hh2 : hs g e y with
    | false =>
      refine ⟨fun _ => ?_, fun h => absurd rfl h⟩
      unfold wpX12_reading
      refine hrd s _ M ?_
      rw [hh2]
      exact ⟨fun _ => lost _ bad, fun h => absurd rfl h⟩
    | true =>
      refine ⟨fun h => absurd h (by decide), fun _ => ?_⟩
      obtain ⟨i, him, hi6, rfl⟩ := hs_ex O he hh2
      have badw : (w < 0 ∨ nI 5 ≤ w) → wpX12_reading (nI e) (nI i) w s (fun r' s2 => thK K 1 r'.toInt64 s2) := by
        intro hw
        unfold wpX12_reading
        refine hrd s _ M ?_
        rw [hh2]
        refine ⟨fun h => absurd h (by decide), fun _ => ?_⟩
        rw [show (4 : Int32) = nI 5 - 1 from by decide, m_in0 (by decide), or_out hw]
        exact ⟨fun _ => lost _ bad, fun h => absurd rfl h⟩
      have good : ∀ j, j < 5 → ∀ v : Int32, v = g (8 + 5 * (6 * e + i) + j) → wpX12_reading (nI e) (nI i) (nI j) (wl s 192 0 v.toInt64) (fun r' s2 => thK K 0 r'.toInt64 s2) := by
        intro j hj v hv
        have M1 : MI t L g us ks (wl s 192 0 v.toInt64) := M.lo
        unfold wpX12_reading
        refine hrd _ _ M1 ?_
        rw [hh2]
        refine ⟨fun h => absurd h (by decide), fun _ => ?_⟩
        rw [show (4 : Int32) = nI 5 - 1 from by decide, m_in0 (by decide), or_in hj (by decide)]
        refine ⟨fun h => absurd h (by decide), fun _ => ?_⟩
        rw [m_of (M0 _ M1) he hi6 hj, ← hv]
        refine th_0 (s1 := wl s 192 0 v.toInt64) A C.lo M1 kk m_th M1.2.1.th (wi_at _ _ _ _) ?_
        show gl (wl s 192 0 v.toInt64) 192 0 = _
        rw [gl_wl, if_pos ⟨rfl, rfl⟩]
      rcases ev_or w 5 (by decide) with ⟨j, hj, rfl⟩ | hw
      · refine ⟨fun h => absurd h (nI_pos (by omega)), fun _ => ⟨fun _ => ⟨fun h4 => ?_, fun h4 => ?_⟩, fun h => absurd (show nI j ≤ 4 from nI_le (b := 4) (by omega) (by decide)) h⟩⟩
        · have hj4 : j < 4 := by
            have : j ≠ 4 := fun h => h4 (by rw [h]; rfl)
            omega
          rw [c_value R he him hi6 hj4]
          refine good j hj _ ?_
          unfold vl
          exact (i_of _).symm
        · have : j = 4 := by
            rw [show (4 : Int32) = nI 4 from rfl, nI_eq (by omega) (by decide)] at h4
            exact h4
          subst this
          rw [c_isIn O R he hi6]
          have hb := inn_bi O he him
          cases hin : inn g e i with
          | false =>
            rw [hin] at hb
            exact ⟨fun _ => good 4 (by decide) 0 hb.symm, fun h => absurd rfl h⟩
          | true =>
            rw [hin] at hb
            exact ⟨fun h => absurd h (by decide), fun _ => good 4 (by decide) 1 hb.symm⟩
      · refine ⟨fun _ => badw hw, fun h0 => ⟨fun h4 => ?_, fun _ => badw hw⟩⟩
        rcases hw with hw | hw
        · exact absurd hw h0
        · exfalso
          obtain ⟨z, z1, z2, rfl⟩ := i_ex w
          rw [show (4 : Int32) = iI 4 from rfl, iI_le z1 z2 (by decide) (by decide)] at h4
          rw [nI_i, iI_le (by decide) (by decide) z1 z2] at hw
          omega
  · have hz : wpX8_has 20 x y s (fun r s => (r = 0 → wpX12_reading x y w s (fun r' s2 => thK K 1 r'.toInt64 s2)) ∧ (¬ r = 0 → (w < 0 → wpX12_reading x y w s (fun r' s2 => thK K 1 r'.toInt64 s2)) ∧ (¬ w < 0 → (w ≤ 4 → (¬ w = 4 → wpX8_value 20 x y w s (fun r s => wpX12_reading x y w (wl s 192 0 r.toInt64) (fun r' s2 => thK K 0 r'.toInt64 s2))) ∧ (w = 4 → wpX8_isIn 20 x y s (fun r s => (r = 0 → wpX12_reading x y w (wl s 192 0 (0 : Int32).toInt64) (fun r' s2 => thK K 0 r'.toInt64 s2)) ∧ (¬ r = 0 → wpX12_reading x y w (wl s 192 0 (1 : Int32).toInt64) (fun r' s2 => thK K 0 r'.toInt64 s2))))) ∧ (¬ w ≤ 4 → wpX12_reading x y w s (fun r' s2 => thK K 1 r'.toInt64 s2))))) := by
      have go : wpX12_reading x y w s (fun r' s2 => thK K 1 r'.toInt64 s2) := by
        unfold wpX12_reading wpX12_isReading
        rw [m_isTold0 hx]
        exact ⟨fun _ => ⟨fun _ => lost _ bad, fun h => absurd rfl h⟩, fun h => absurd rfl h⟩
      unfold wpX8_has
      refine ⟨fun _ => ⟨fun _ => go, fun h => absurd rfl h⟩, fun h0 => ?_⟩
      rw [c_size0 hx]
      exact ⟨fun _ => ⟨fun _ => go, fun h => absurd rfl h⟩, fun h => absurd (by simpa using h0) h⟩
    exact hz
end QUERY
