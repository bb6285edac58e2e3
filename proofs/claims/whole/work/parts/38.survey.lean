/-! the reference's survey -/
def fm (D F : List Nat) (s s' : gS) : Prop := (∀ a, a ∉ D → a ≠ 177 → s'.1 a = s.1 a) ∧ (∀ j, j ∉ F → s'.1 177 j = s.1 177 j) ∧ (∀ a, a ∉ D → s'.2.1 a = s.2.1 a) ∧ s'.2.2 = s.2.2
theorem fm.rf {D F : List Nat} {s : gS} : fm D F s s := ⟨fun _ _ _ => rfl, fun _ _ => rfl, fun _ _ => rfl, rfl⟩
theorem fm.tr {D F : List Nat} {s s1 s2 : gS} (h : fm D F s s1) (h2 : fm D F s1 s2) : fm D F s s2 := ⟨fun a d e => (h2.1 a d e).trans (h.1 a d e), fun a d => (h2.2.1 a d).trans (h.2.1 a d), fun a d => (h2.2.2.1 a d).trans (h.2.2.1 a d), h2.2.2.2.trans h.2.2.2⟩
theorem fm_wi {D F : List Nat} {s : gS} {a i : Nat} {v : Int32} (h : a ∈ D) (h2 : a ≠ 177) : fm D F s (wi s a i v) := ⟨fun b hb _ => g_up_a _ _ _ (fun e => hb (e ▸ h)), fun _ _ => congrFun (g_up_a _ _ _ (fun e => h2 e.symm)) _, fun _ _ => rfl, rfl⟩
theorem fm_wf {D F : List Nat} {s : gS} {i : Nat} {v : Int32} (h : i ∈ F) : fm D F s (wi s 177 i v) := ⟨fun b _ hb => g_up_a _ _ _ hb, fun j hj => by
  show gi (wi s 177 i v) 177 j = gi s 177 j
  have hne : j ≠ i := fun e => hj (e ▸ h)
  rw [gi_wi]
  simp [hne], fun _ _ => rfl, rfl⟩
theorem fm_wl {D F : List Nat} {s : gS} {a i : Nat} {v : Int64} (h : a ∈ D) : fm D F s (wl s a i v) := ⟨fun _ _ _ => rfl, fun _ _ => rfl, fun b hb => g_up_a _ _ _ (fun e => hb (e ▸ h)), rfl⟩
theorem fm.mono {D F D2 F2 : List Nat} {s s' : gS} (h : fm D F s s') (hd : ∀ a, a ∈ D → a ∈ D2) (hf : ∀ a, a ∈ F → a ∈ F2) : fm D2 F2 s s' := ⟨fun a h2 h3 => h.1 a (fun x => h2 (hd a x)) h3, fun a h2 => h.2.1 a (fun x => h2 (hf a x)), fun a h2 => h.2.2.1 a (fun x => h2 (hd a x)), h.2.2.2⟩
theorem wi_at (s : gS) (a i : Nat) (v : Int32) : (wi s a i v).1 a i = v := by
  show gi (wi s a i v) a i = v
  rw [gi_wi, if_pos ⟨rfl, rfl⟩]
theorem wi_ne (s : gS) (a i : Nat) (v : Int32) {j : Nat} (h : j ≠ i) : (wi s a i v).1 a j = s.1 a j := by
  show gi (wi s a i v) a j = gi s a j
  rw [gi_wi, if_neg (fun e => h e.2)]
theorem wi_na (s : gS) (a i : Nat) (v : Int32) {b : Nat} (h : b ≠ a) : (wi s a i v).1 b = s.1 b := by
  funext j
  show gi (wi s a i v) b j = gi s b j
  rw [gi_wi, if_neg (fun e => h e.1)]
def pk (s : gS) (q : Nat → Int32) : Prop := ∀ e, e < 6 → s.1 182 e = q e
section SURVEY
variable {N : Nat} {s : gS} {g : Nat → Int32} {Q : Int32 → gS → Prop}
theorem ix_nI {n : Nat} (h : n < 2 ^ 31) : ix (nI n) = n := nI_clamp h
theorem m_isAny (M : s.1 178 = g) (k : Q (bi (any g)) s) : wpX12_isAny s Q := by
  have h : ∀ n e, e + n = 6 → wX12_isAny_2 Q (n + 1) (nI e) s = Q (bi (anyF g n e)) s := by
    intro n
    induction n with
    | zero =>
      intro e he
      have : e = 6 := by omega
      subst this
      rw [wX12_isAny_2]
      simp [show (6 : Int32) ≤ nI 6 by decide, anyF, bi]
    | succ n ih =>
      intro e he
      have he6 : e < 6 := by omega
      rw [wX12_isAny_2, m_isTold M he6, nI_1, ih (e + 1) (by omega)]
      simp only [ge6 he6, bi_0, false_implies, true_and, not_false_eq_true, true_implies, anyF]
      cases tl g e <;> simp [bi]
  exact ⟨7, by
    have := h 6 0 rfl
    exact this.symm ▸ k⟩
theorem m_worthNow {q : Nat → Int32} (M : s.1 178 = g) (O : okS N g) (P : pk s q) (V : vq g 6 q) (k : Q (iI (wth g q 6)) s) : wpX12_worthNow s Q := by
  have h : ∀ n e, e + n = 6 → wX12_worthNow_4 Q (n + 1) (iI (wth g q e)) (nI e) s = Q (iI (wth g q 6)) s := by
    intro n
    induction n with
    | zero =>
      intro e he
      have : e = 6 := by omega
      subst this
      rw [wX12_worthNow_4]
      simp [show (6 : Int32) ≤ nI 6 by decide]
    | succ n ih =>
      intro e he
      have he6 : e < 6 := by omega
      rw [wX12_worthNow_4, m_isTold M he6]
      simp only [ge6 he6, bi_0, false_implies, true_and, not_false_eq_true, true_implies]
      have i1 : nI e + 1 = nI (e + 1) := nI_1 e
      cases ht : tl g e with
      | false =>
        have e1 : iI (wth g q e) + 0 = iI (wth g q (e + 1)) := by
          rw [show (0 : Int32) = iI 0 from rfl, iI_add]
          simp [wth, ht]
        rw [e1, i1, ih (e + 1) (by omega)]
        simp
      | true =>
        obtain ⟨i, hi, hq⟩ := (V e).1 ⟨he6, ht⟩
        have hi2 := inn_lt hi
        have hm := (O.2.2.2.1 e he6).2
        have e0 : gi s 182 (ix (nI e)) = nI i := by
          rw [ix_nI (by omega), ← hq, ← P e he6]
          rfl
        have e1 : iI (wth g q e) + iI (vl g e i 3) = iI (wth g q (e + 1)) := by
          rw [iI_add]
          simp [wth, ht, hq, nI_clamp (show i < 2 ^ 31 by omega)]
        simp only [Bool.true_eq_false, false_implies, true_and, not_false_eq_true, true_implies, e0, show (3 : Int32) = nI 3 from rfl, m_ofv M he6 (show i < 6 by omega) (show 3 < 5 by decide), vp_in_nI he6 (by decide), e1, i1]
        exact ih (e + 1) (by omega)
  exact ⟨7, by
    have := h 6 0 rfl
    rw [show (0 : Int32) = iI (wth g q 0) from rfl]
    exact this.symm ▸ k⟩
theorem bts_st {o : Nat} {p : Nat → Bool} (h : o < 31) : nI (bts o p) ||| jshl 1 (nI o) = nI (bts o p + 2 ^ o) := by
  have h1 := bts_lt o p
  have h2 : 2 ^ o < 2 ^ 31 := Nat.pow_lt_pow_right (by decide) h
  rw [shl6 h, nI_or (by omega) h2]
  congr 1
  have := Nat.two_pow_add_eq_or_of_lt h1 1
  rw [Nat.mul_one] at this
  rw [Nat.or_comm, ← this, Nat.add_comm]
theorem m_brokenNow {q : Nat → Int32} (M : s.1 178 = g) (O : okS N g) (hN : N ≤ 10) (P : pk s q) (V : vq g 6 q) (k : Q (nI (bb g q)) s) : wpX12_brokenNow s Q := by
  have hn := O.2.1.2
  have en : gi s 178 1 = nI (no g) := by rw [← O.2.1.1, ← M]; rfl
  have h : ∀ n o, o + n = no g → wX12_brokenNow_4 Q (n + 1) (nI (bts o (brk g q))) (nI o) s = Q (nI (bb g q)) s := by
    intro n
    induction n with
    | zero =>
      intro o ho
      have : o = no g := by omega
      subst this
      rw [wX12_brokenNow_4, en]
      simp [nI_le (Nat.le_refl (no g)) (show no g < 2 ^ 31 by omega), bb]
    | succ n ih =>
      intro o ho
      obtain ⟨c1, c2, c3, c4, c5, c6, c7⟩ := O.2.2.1 o (by omega)
      have i1 : nI o + 1 = nI (o + 1) := nI_1 o
      have a0 : 188 + 3 * nI o = nI (188 + 3 * o) := by
        simp only [lit_i, nI_i, iI_add, iI_mul]
        congr 1
      have a1 : nI (188 + 3 * o) + 1 = nI (188 + 3 * o + 1) := nI_1 _
      have a2 : nI (188 + 3 * o) + 2 = nI (188 + 3 * o + 2) := nI_add _ 2
      have b0 : gi s 178 (188 + 3 * o) = nI (kd g o) := by rw [← c1, ← M]; rfl
      have b1 : gi s 178 (188 + 3 * o + 1) = nI (ox g o) := by rw [← c2, ← M]; rfl
      have b2 : gi s 178 (188 + 3 * o + 2) = nI (oy g o) := by rw [← c3, ← M]; rfl
      rw [wX12_brokenNow_4, en]
      have hle : (nI (no g) ≤ nI o) = False := by
        rw [nI_leI (by omega) (by omega)]
        simp; omega
      simp only [hle, a0, a1, a2, ix_nI (show 188 + 3 * o < 2 ^ 31 by omega), ix_nI (show 188 + 3 * o + 1 < 2 ^ 31 by omega), ix_nI (show 188 + 3 * o + 2 < 2 ^ 31 by omega), b0, b1, b2, vp_in_nI (show 188 + 3 * o < 218 by omega) (by decide), vp_in_nI (show 188 + 3 * o + 1 < 218 by omega) (by decide), vp_in_nI (show 188 + 3 * o + 2 < 218 by omega) (by decide), m_isTold M c5, m_isTold M c6, vp_in_nI c5 (by decide), vp_in_nI c6 (by decide), ix_nI (show ox g o < 2 ^ 31 by omega), ix_nI (show oy g o < 2 ^ 31 by omega), bi_0, false_implies, true_and, not_false_eq_true, true_implies, i1]
      cases hx : tl g (ox g o) with
      | false =>
        have hb : brk g q o = false := by simp [brk, hx]
        have : bts (o + 1) (brk g q) = bts o (brk g q) := by rw [bts_s, hb]; simp
        rw [← this, ih (o + 1) (by omega)]
        simp
      | true =>
        cases hy : tl g (oy g o) with
        | false =>
          have hb : brk g q o = false := by simp [brk, hy]
          have : bts (o + 1) (brk g q) = bts o (brk g q) := by rw [bts_s, hb]; simp
          rw [← this, ih (o + 1) (by omega)]
          simp
        | true =>
          obtain ⟨i, hi, hqi⟩ := (V (ox g o)).1 ⟨c5, hx⟩
          obtain ⟨j, hj, hqj⟩ := (V (oy g o)).1 ⟨c6, hy⟩
          have hi2 := inn_lt hi
          have hj2 := inn_lt hj
          have hmi := (O.2.2.2.1 _ c5).2
          have hmj := (O.2.2.2.1 _ c6).2
          have e1 : gi s 182 (ox g o) = nI i := by rw [← hqi, ← P _ c5]; rfl
          have e2 : gi s 182 (oy g o) = nI j := by rw [← hqj, ← P _ c6]; rfl
          simp only [Bool.true_eq_false, false_implies, true_and, not_false_eq_true, true_implies, e1, e2, m_holdsBy M O c4 c5 c6 hi2 hj2, bi_0]
          have hb : brk g q o = !hld (kd g o) (vl g (ox g o) i 0) (vl g (ox g o) i 1) (vl g (oy g o) j 0) (vl g (oy g o) j 1) := by
            simp only [brk, hx, hy, hqi, hqj, ix_nI (show i < 2 ^ 31 by omega), ix_nI (show j < 2 ^ 31 by omega), Bool.true_and]
          cases hh : hld (kd g o) (vl g (ox g o) i 0) (vl g (ox g o) i 1) (vl g (oy g o) j 0) (vl g (oy g o) j 1) with
          | true =>
            rw [hh] at hb
            have : bts (o + 1) (brk g q) = bts o (brk g q) := by rw [bts_s, hb]; simp
            rw [← this, ih (o + 1) (by omega)]
            simp
          | false =>
            rw [hh] at hb
            have : bts (o + 1) (brk g q) = bts o (brk g q) + 2 ^ o := by rw [bts_s, hb]; simp
            rw [bts_st (by omega), ← this, ih (o + 1) (by omega)]
            simp
  exact ⟨no g + 1, by
    have := h (no g) 0 (by omega)
    exact this.symm ▸ k⟩
theorem m_nextPicks {q : Nat → Int32} (O : okS N g) (F : ∀ e, e < 6 → tl g e = true → ins g e ≠ []) : ∀ n, n ≤ 6 → ∀ (s : gS) (q : Nat → Int32), s.1 178 = g → pk s q → (∀ e, e < n → tl g e = true → ∃ i, i < mn g e ∧ q e = nI i) → (nxN g n q = none → ∀ s', fm [182] [] s s' → Q 0 s') → (∀ q', nxN g n q = some q' → ∀ s', fm [182] [] s s' → pk s' q' → Q 1 s') → wX12_nextPicks_2 Q (n + 1) (iI ((n : Int) - 1)) s := by
  intro n
  induction n with
  | zero =>
    intro _ s q M P V k0 k1
    rw [wX12_nextPicks_2]
    exact ⟨fun _ => k0 rfl s fm.rf, fun h => absurd (by decide) h⟩
  | succ n ih =>
    intro hn s q M P V k0 k1
    have hn6 : n < 6 := by omega
    have e1 : iI (((n + 1 : Nat) : Int) - 1) = nI n := by rw [nI_i]; congr 1; omega
    have e2 : nI n + (-1) = iI ((n : Int) - 1) := by
      rw [nI_i, show (-1 : Int32) = iI (-1) from rfl, iI_add]
      rfl
    rw [e1, wX12_nextPicks_2, m_isTold M hn6]
    simp only [ltz (show n < 2 ^ 31 by omega), bi_0, false_implies, true_and, not_false_eq_true, true_implies, e2]
    have hm := (O.2.2.2.1 n hn6).2
    cases ht : tl g n with
    | false =>
      have hx : nxN g (n + 1) q = nxN g n q := by rw [nxN, ht]; simp
      refine ⟨fun h => absurd rfl h, fun _ => ih (by omega) s q M P (fun e he => V e (by omega)) (fun h => k0 (hx ▸ h)) (fun q' h => k1 q' (hx ▸ h))⟩
    | true =>
      refine ⟨fun _ => ⟨vp_in_nI hn6 (by decide), ?_⟩, fun h => by cases h⟩
      obtain ⟨i, hi, hq⟩ := V n (by omega) ht
      have e3 : gi s 182 (ix (nI n)) + 1 = nI (i + 1) := by
        rw [ix_nI (by omega), show gi s 182 n = nI i by rw [← hq, ← P n hn6]; rfl]
        exact nI_1 i
      rw [e3]
      refine m_inFrom M O ht hn6 (by omega) ?_
      have e4 : fst_in g n (mn g n - (i + 1)) (i + 1) = sc g n (q n) := by
        unfold sc
        rw [hq, ix_nI (by omega)]
      rw [e4]
      refine ⟨fun h => ?_, fun h => ⟨vp_in_nI hn6 (by decide), ?_⟩⟩
      · refine m_inFrom (i := 0) M O ht hn6 (by omega) ?_
        refine ⟨vp_in_nI hn6 (by decide), ?_⟩
        have hx : nxN g (n + 1) q = nxN g n (up q n (fs g n)) := by rw [nxN, if_pos ht, if_pos h]
        rw [ix_nI (by omega)]
        refine ih (by omega) _ (up q n (fs g n)) (by rw [wi_na _ _ _ _ (by decide)]; exact M) (fun e he => ?_) (fun e he ht => ?_) (fun h2 s' hs => k0 (hx.trans h2) s' (fm.tr (fm_wi (by decide) (by decide)) hs)) (fun q' h2 s' hs => k1 q' (hx.trans h2) s' (fm.tr (fm_wi (by decide) (by decide)) hs))
        · by_cases hen : e = n
          · subst hen
            rw [wi_at, up_at]
            rfl
          · rw [wi_ne _ _ _ _ hen, up_ne _ _ hen]
            exact P e he
        · rw [up_ne _ _ (by omega)]
          exact V e (by omega) ht
      · rw [ix_nI (by omega)]
        have hx : nxN g (n + 1) q = some (up q n (sc g n (q n))) := by rw [nxN, if_pos ht, if_neg h]
        refine k1 _ hx _ (fm_wi (by decide) (by decide)) (fun e he => ?_)
        by_cases hen : e = n
        · subst hen
          rw [wi_at, up_at]
        · rw [wi_ne _ _ _ _ hen, up_ne _ _ hen]
          exact P e he
theorem fs_0 {e : Nat} (O : okS N g) (he : e < 6) : fs g e = -1 ↔ ins g e = [] := by
  have hm := (O.2.2.2.1 e he).2
  unfold fs ins
  rw [fst_hd]
  cases h : insF g e (mn g e) 0 with
  | nil => simp
  | cons a t =>
    obtain ⟨k, hk, -, -, h4⟩ := insF_mem g e _ _ a (by rw [h]; exact List.mem_cons_self)
    simp [hk]
    exact nI_ne (by omega)
theorem m_startL (O : okS N g) : ∀ n e, e + n = 6 → ∀ s : gS, s.1 178 = g → (∀ k, k < e → s.1 182 k = ps g 6 k) → ((∃ k, e ≤ k ∧ k < 6 ∧ tl g k = true ∧ ins g k = []) → ∀ s', fm [182] [] s s' → Q 0 s') → ((∀ k, e ≤ k → k < 6 → tl g k = true → ins g k ≠ []) → ∀ s', fm [182] [] s s' → pk s' (ps g 6) → Q (bi (any g)) s') → wX12_startPicks_2 Q (n + 1) (nI e) s := by
  intro n
  induction n with
  | zero =>
    intro e he s M P k0 k1
    have : e = 6 := by omega
    subst this
    rw [wX12_startPicks_2]
    refine ⟨fun _ => m_isAny M ⟨bi_01 _, k1 (fun k h1 h2 => by omega) s fm.rf P⟩, fun h => absurd (by decide) h⟩
  | succ n ih =>
    intro e he s M P k0 k1
    have he6 : e < 6 := by omega
    rw [wX12_startPicks_2, m_isTold M he6]
    simp only [ge6 he6, bi_0, false_implies, true_and, not_false_eq_true, true_implies]
    cases ht : tl g e with
    | false =>
      refine ⟨fun _ => ?_, fun h => absurd rfl h⟩
      unfold wX12_startPicks_31
      refine ⟨vp_in_nI he6 (by decide), ?_⟩
      have M2 : (wi s 182 (ix (nI e)) (-1)).1 178 = g := by rw [wi_na _ _ _ _ (by decide)]; exact M
      rw [m_isTold M2 he6, ht]
      refine ⟨fun _ => ?_, fun h => absurd rfl h⟩
      rw [nI_1, ix_nI (by omega)]
      rw [ix_nI (by omega)] at M2
      refine ih (e + 1) (by omega) _ M2 (fun k hk => ?_) (fun h s' hs => k0 ?_ s' (fm.tr (fm_wi (by decide) (by decide)) hs)) (fun h s' hs => k1 (fun k h1 h2 h3 => h k ?_ h2 h3) s' (fm.tr (fm_wi (by decide) (by decide)) hs))
      · by_cases h : k = e
        · subst h
          rw [wi_at]
          simp [ps, ht]
        · rw [wi_ne _ _ _ _ h]
          exact P k (by omega)
      · obtain ⟨k, h1, h2⟩ := h
        exact ⟨k, by omega, h2⟩
      · by_cases h : k = e
        · subst h
          rw [ht] at h3
          cases h3
        · omega
    | true =>
      refine ⟨fun h => (by cases h), fun _ => ?_⟩
      refine m_inFrom (i := 0) M O ht he6 (by omega) ?_
      unfold wX12_startPicks_31
      refine ⟨vp_in_nI he6 (by decide), ?_⟩
      show wpX12_isTold (nI e) (wi s 182 (ix (nI e)) (fs g e)) _
      rw [ix_nI (by omega)]
      have M2 : (wi s 182 e (fs g e)).1 178 = g := by rw [wi_na _ _ _ _ (by decide)]; exact M
      rw [m_isTold M2 he6, ht]
      refine ⟨fun h => (by cases h), fun _ => ⟨vp_in_nI he6 (by decide), ?_⟩⟩
      have e1 : gi (wi s 182 e (fs g e)) 182 e = fs g e := wi_at _ _ _ _
      rw [e1]
      refine ⟨fun h4 => ?_, fun h4 => k0 ⟨e, Nat.le_refl _, he6, ht, (fs_0 O he6).mp h4⟩ _ (fm_wi (by decide) (by decide))⟩
      rw [nI_1]
      refine ih (e + 1) (by omega) _ M2 (fun k hk => ?_) (fun h s' hs => k0 ?_ s' (fm.tr (fm_wi (by decide) (by decide)) hs)) (fun h s' hs => k1 (fun k h1 h2 h3 => ?_) s' (fm.tr (fm_wi (by decide) (by decide)) hs))
      · by_cases h : k = e
        · subst h
          rw [wi_at]
          simp [ps, ht, he6]
        · rw [wi_ne _ _ _ _ h]
          exact P k (by omega)
      · obtain ⟨k, h1, h2⟩ := h
        exact ⟨k, by omega, h2⟩
      · by_cases h5 : k = e
        · subst h5
          exact fun h6 => h4 ((fs_0 O he6).mpr h6)
        · exact h k (by omega) h2 h3
/-- picks are gone through as a list -/
theorem m_start (M : s.1 178 = g) (O : okS N g) (k0 : allP g = [] → ∀ s', fm [182] [] s s' → Q 0 s') (k1 : ∀ q t, allP g = q :: t → chn (nxN g 6) (q :: t) → ∀ s', fm [182] [] s s' → pk s' q → Q 1 s') : wpX12_startPicks s Q := by
  refine ⟨7, m_startL O 6 0 rfl s M (fun k h => by omega) (fun h s' hs => k0 ?_ s' hs) (fun h s' hs hp => ?_)⟩
  · obtain ⟨k, -, h1, h2, h3⟩ := h
    unfold allP
    rw [PN_nil 6 ⟨k, h1, h2, h3⟩]
    simp
  · have h' : ∀ e, e < 6 → tl g e = true → ins g e ≠ [] := fun e he => h e (Nat.zero_le _) he
    cases ha : any g with
    | false => exact k0 (by unfold allP; rw [ha]; rfl) s' hs
    | true =>
      obtain ⟨t, ht⟩ := PN_hd 6 h'
      have hc := PN_ch O 6 (Nat.le_refl _) h'
      rw [ht] at hc
      exact k1 _ t (by unfold allP; rw [ha, ← ht]; rfl) hc s' hs hp
theorem allP_ne {q : Nat → Int32} (h : q ∈ allP g) : (∀ e, e < 6 → tl g e = true → ins g e ≠ []) ∧ vq g 6 q ∧ any g = true := by
  have ha : any g = true := by
    cases ha : any g with
    | true => rfl
    | false => unfold allP at h; rw [ha] at h; cases h
  have h1 : q ∈ PN g 6 := by unfold allP at h; rw [ha] at h; exact h
  refine ⟨fun e he ht hi => ?_, PN_vq 6 q h1, ha⟩
  rw [PN_nil 6 ⟨e, he, ht, hi⟩] at h1
  cases h1
theorem m_next {q : Nat → Int32} {t : List (Nat → Int32)} (M : s.1 178 = g) (O : okS N g) (hq : q ∈ allP g) (P : pk s q) (C : chn (nxN g 6) (q :: t)) (k0 : t = [] → ∀ s', fm [182] [] s s' → Q 0 s') (k1 : ∀ q' t', t = q' :: t' → chn (nxN g 6) (q' :: t') → ∀ s', fm [182] [] s s' → pk s' q' → Q 1 s') : wpX12_nextPicks s Q := by
  obtain ⟨h1, h2, -⟩ := allP_ne hq
  refine ⟨7, m_nextPicks (q := q) O h1 6 (Nat.le_refl _) s q M P (fun e he ht => ?_) (fun hx => ?_) (fun q' hx => ?_)⟩
  · obtain ⟨i, h3, h4⟩ := (h2 e).1 ⟨he, ht⟩
    exact ⟨i, inn_lt h3, h4⟩
  · cases t with
    | nil => exact k0 rfl
    | cons b t =>
      have := C.1
      rw [hx] at this
      cases this
  · cases t with
    | nil =>
      have : nxN g 6 q = none := C
      rw [hx] at this
      cases this
    | cons b t =>
      have := C.1
      rw [hx] at this
      cases this
      exact k1 _ _ rfl C.2
end SURVEY
