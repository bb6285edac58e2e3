/-! drops, order, goes -/
section MUT
variable {t : List Nat} {L : List Int32} {g g' : Sy} {us us' : List Sy} {ks : Nat → Option Sy} {s s' : gS} {K : gS → Prop} {N : Nat}
def drG (g : Sy) (e : Nat) : Sy := fun j => if j = 2 + e then -1 else if 8 + 30 * e ≤ j ∧ j < 38 + 30 * e then 0 else g j
theorem dr_h {e j : Nat} (h1 : j ≠ 2 + e) (h2 : ¬ (8 + 30 * e ≤ j ∧ j < 38 + 30 * e)) : drG g e j = g j := by
  unfold drG
  rw [if_neg h1, if_neg h2]
theorem dr_tl {e e' : Nat} (he : e < 6) (he' : e' < 6) : tl (drG g e) e' = (tl g e' && !(e' == e)) := by
  by_cases h : e' = e
  · subst h
    unfold tl drG
    rw [if_pos rfl]
    simp
  · have h2 : (e' == e) = false := by simpa using h
    rw [v_tl (dr_h (by omega) (by omega)), h2]
    simp
theorem dr_mn {e e' : Nat} (he : e < 6) (he' : e' < 6) : mn (drG g e) e' = if e' = e then 0 else mn g e' := by
  by_cases h : e' = e
  · rw [if_pos h]
    exact mn_nt (by rw [dr_tl he he']; simp [h])
  · rw [if_neg h]
    exact v_mn (dr_h (by omega) (by omega))
theorem ok_dr {e : Nat} (O : okU g) (he : e < 6) : okU (drG g e) := by
  obtain ⟨O, Z⟩ := O
  refine ⟨⟨?_, ?_, fun o ho => ?_, fun e' he' => ?_, fun e' he' i' hi' => ?_⟩, fun k hk => ?_⟩
  · rw [dr_h (by omega) (by omega)]; exact O.1
  · have e1 : drG g e 1 = g 1 := dr_h (by omega) (by omega)
    rw [e1, v_no e1]; exact O.2.1
  · have e1 : drG g e 1 = g 1 := dr_h (by omega) (by omega)
    rw [v_no e1] at ho
    exact v_okO (fun j hj => dr_h (by omega) (by omega)) (O.2.2.1 o ho)
  · rw [dr_tl he he', dr_mn he he']
    by_cases h : e' = e
    · subst h
      simp
    · rw [if_neg h, dr_h (by omega) (by omega)]
      exact ⟨fun ht => (O.2.2.2.1 e' he').1 (by rw [Bool.and_eq_true] at ht; exact ht.1), (O.2.2.2.1 e' he').2⟩
  · rw [dr_mn he he'] at hi'
    by_cases h : e' = e
    · rw [if_pos h] at hi'; omega
    · rw [if_neg h] at hi'
      have hm2 := (O.2.2.2.1 e' he').2
      exact v_okR (fun w hw => dr_h (by omega) (by omega)) (O.2.2.2.2 e' he' i' hi')
  · rw [dr_h (by omega) (by omega)]; exact Z k hk
theorem re_dr {f : Sy} {e : Nat} (hN : N ≤ 11) (O : okS N g) (R : repC f g) (he : e < 6) : repC (up (up (up f 1 (nI (bts 6 (tl (drG g e))))) (14 + e) 0) (20 + e) 0) (drG g e) := by
  have hno := O.2.1.2
  have e1 : drG g e 1 = g 1 := dr_h (by omega) (by omega)
  refine ⟨?_, ?_, ?_, fun o ho => ?_, fun e' he' => ⟨?_, ?_⟩, fun e' he' i' hi' w hw => ?_⟩
  · rw [up_ne _ _ (by omega), up_ne _ _ (by omega), up_ne _ _ (by omega), dr_h (by omega) (by omega)]; exact R.1
  · rw [up_ne _ _ (by omega), up_ne _ _ (by omega), up_ne _ _ (by omega), e1]; exact R.2.1
  · rw [up_ne _ _ (by omega), up_ne _ _ (by omega), up_at]
  · rw [v_no e1] at ho
    rw [up_ne _ _ (by omega), up_ne _ _ (by omega), up_ne _ _ (by omega), v_cd (fun j hj => dr_h (by omega) (by omega))]
    exact R.2.2.2.1 o ho
  · rw [dr_mn he he', up_ne _ _ (by omega)]
    by_cases h : e' = e
    · subst h; rw [up_at, if_pos rfl]; rfl
    · rw [up_ne _ _ (by omega), up_ne _ _ (by omega), if_neg h]; exact (R.2.2.2.2.1 e' he').1
  · by_cases h : e' = e
    · subst h
      rw [up_at, bts_cg (q := fun _ => false) (fun i hi => inn_mn (by rw [dr_mn he he', if_pos rfl]; omega))]
      exact b0_6
    · rw [up_ne _ _ (by omega), up_ne _ _ (by omega), up_ne _ _ (by omega), (R.2.2.2.2.1 e' he').2]
      congr 1
      exact bts_cg (fun i hi => (v_inn (dr_h (by omega) (by omega)) (dr_h (by omega) (by omega))).symm)
  · rw [dr_mn he he'] at hi'
    by_cases h : e' = e
    · rw [if_pos h] at hi'; omega
    · rw [if_neg h] at hi'
      have hm2 := (O.2.2.2.1 e' he').2
      rw [up_ne _ _ (by omega), up_ne _ _ (by omega), up_ne _ _ (by omega), dr_h (by omega) (by omega)]
      exact R.2.2.2.2.2 e' he' i' hi' w hw
theorem c_drop {a e : Nat} {Q : Int32 → gS → Prop} (hN : N ≤ 11) (O : okS N g) (R : repC (s.1 (a + 1)) g) (he : e < 6) (k0 : tl g e = false → Q (-2) s) (k1 : tl g e = true → ∀ s', fR (fun c => c == a + 1) s s' → repC (s'.1 (a + 1)) (drG g e) → Q (nI (cnt 6 (tl (drG g e)))) s') : wpX8_drop a (nI e) s Q := by
  unfold wpX8_drop
  rw [c_isTold R he]
  simp only [ltz (show e < 2 ^ 31 by omega), lt6 he, false_implies, true_and, not_false_eq_true, true_implies, not_true_eq_false, and_true]
  cases ht : tl g e with
  | false => exact ⟨fun h => absurd rfl h, fun _ => k0 ht⟩
  | true =>
    refine ⟨fun _ => ?_, fun h => absurd h (by decide)⟩
    have e1 : 14 + nI e = nI (14 + e) := nI_add 14 e
    have e2 : 20 + nI e = nI (20 + e) := nI_add 20 e
    have e3 : gi s (a + 1) 1 &&& (jshl 1 (nI e) ^^^ (-1)) = nI (bts 6 (tl (drG g e))) := by
      rw [show gi s (a + 1) 1 = nI (bts 6 (tl g)) from R.2.2.1, bnot6 he]
      congr 1
      exact bts_cg (fun k hk => (dr_tl he hk).symm)
    rw [e1, e2, e3, ix_nI (by omega), ix_nI (by omega)]
    refine ⟨vp_in_nI (by omega) (by decide), vp_in_nI (by omega) (by decide), ?_⟩
    rw [show gi (wi (wi (wi s (a + 1) 1 (nI (bts 6 (tl (drG g e))))) (a + 1) (14 + e) 0) (a + 1) (20 + e) 0) (a + 1) 1 = nI (bts 6 (tl (drG g e))) from by
      show (wi (wi (wi s (a + 1) 1 (nI (bts 6 (tl (drG g e))))) (a + 1) (14 + e) 0) (a + 1) (20 + e) 0).1 (a + 1) 1 = _
      rw [wi_ne _ _ _ _ (by omega), wi_ne _ _ _ _ (by omega), wi_at], pop_6]
    refine k1 ht _ (fR.tr (fR_wi (by simp)) (fR.tr (fR_wi (by simp)) (fR_wi (by simp)))) ?_
    rw [wi_up, wi_up, wi_up]
    exact re_dr hN O R he
theorem c_drop0 {a : Nat} {x : Int32} {Q : Int32 → gS → Prop} (h : x < 0 ∨ 6 ≤ x) (k : Q (-1) s) : wpX8_drop a x s Q := by
  unfold wpX8_drop
  refine ⟨fun _ => k, fun h1 => ⟨fun h2 => ?_, fun _ => k⟩⟩
  rcases h with h | h
  · exact absurd h h1
  · exact absurd h2 (Int32.not_lt.mpr h)
theorem m_toldMany {Q : Int32 → gS → Prop} (M : s.1 178 = g) (k : Q (nI (cnt 6 (tl g))) s) : wpX12_toldMany s Q := by
  have Lp : ∀ n e, e + n = 6 → wX12_toldMany_4 Q (n + 1) (nI (cnt e (tl g))) (nI e) s := by
    intro n
    induction n with
    | zero =>
      intro e he
      have : e = 6 := by omega
      subst this
      rw [wX12_toldMany_4]
      exact ⟨fun _ => k, fun h => absurd (by decide) h⟩
    | succ n ih =>
      intro e he
      have he6 : e < 6 := by omega
      have := ih (e + 1) (by omega)
      rw [cnt_s] at this
      rw [wX12_toldMany_4, m_isTold M he6, nI_1 e, nI_1, show ∀ z, nI z + 0 = nI z from fun z => Int32.add_zero _]
      simp only [ge6 he6, bi_0, false_implies, true_and, not_false_eq_true, true_implies]
      cases ht : tl g e with
      | false =>
        rw [ht] at this
        exact ⟨fun _ => by simpa using this, fun h => absurd rfl h⟩
      | true =>
        rw [ht] at this
        exact ⟨fun h => (by cases h), fun _ => by simpa using this⟩
  exact ⟨7, Lp 6 0 rfl⟩
theorem m_goDrop {e : Nat} {Q : gS → Prop} (M : s.1 178 = g) (he : e < 6) (k : ∀ s', fm [178] [] s s' → s'.1 178 = drG g e → Q s') : wpX12_goDrop (nI e) s Q := by
  unfold wpX12_goDrop wpX12_place
  have e1 : 2 + nI e = nI (2 + e) := nI_add 2 e
  have e2 : 8 + 5 * (6 * nI e + 0) = nI (8 + 30 * e) := by
    simp only [lit_i, nI_i, iI_add, iI_mul]
    congr 1
    simp
    omega
  have e3 : 8 + 5 * (6 * nI e + 6) = nI (38 + 30 * e) := by
    simp only [lit_i, nI_i, iI_add, iI_mul]
    congr 1
    simp
    omega
  rw [e1, e2, ix_nI (by omega)]
  refine ⟨vp_in_nI (by omega) (by decide), ?_⟩
  have Lp : ∀ n j, j + n = 38 + 30 * e → 8 + 30 * e ≤ j → ∀ s1, fm [178] [] s s1 → s1.1 178 = (fun k => if k = 2 + e then -1 else if 8 + 30 * e ≤ k ∧ k < j then 0 else g k) → wX12_goDrop_15 (nI e) Q (n + 1) (nI j) s1 := by
    intro n
    induction n with
    | zero =>
      intro j hj hj2 s1 f h
      have : j = 38 + 30 * e := by omega
      subst this
      rw [wX12_goDrop_15]
      unfold wpX12_place
      rw [e3]
      exact ⟨fun _ => k s1 f h, fun h => absurd (nI_le (Nat.le_refl _) (by omega)) h⟩
    | succ n ih =>
      intro j hj hj2 s1 f h
      rw [wX12_goDrop_15]
      unfold wpX12_place
      rw [e3]
      refine ⟨fun h => ?_, fun _ => ⟨vp_in_nI (by omega) (by decide), ?_⟩⟩
      · rw [nI_leI (by omega) (by omega)] at h; omega
      · rw [nI_1, ix_nI (by omega)]
        refine ih (j + 1) (by omega) (by omega) _ (f.tr (fm_wi (by decide) (by decide))) ?_
        rw [wi_up, h]
        funext k
        unfold up
        by_cases hk : k = j
        · subst hk
          have : ¬ k = 2 + e := by omega
          simp [this, hj2]
        · simp only [hk, if_false]
          by_cases h2 : k = 2 + e
          · simp [h2]
          · simp only [h2, if_false]
            have : (8 + 30 * e ≤ k ∧ k < j + 1) = (8 + 30 * e ≤ k ∧ k < j) := by
              apply propext
              omega
            simp only [this]
  refine ⟨31, Lp 30 (8 + 30 * e) (by omega) (Nat.le_refl _) _ (fm_wi (by decide) (by decide)) ?_⟩
  rw [wi_up, M]
  funext k
  unfold up
  by_cases h2 : k = 2 + e
  · simp [h2]
  · simp only [h2, if_false]
    rw [if_neg (by omega)]
theorem S_drops {x : Int32} (A : okA t L g us ks) (C : CI t L g us ks s) (M : MI t L g us ks s) (kk : KK t K) : wpX11_drops x s (fun r s1 => wpX12_drops x s1 (eqK K r)) := by
  have O := A.2.2.1.1
  have M0 : ∀ s1, MI t L g us ks s1 → (wi s1 177 5 0).1 178 = g := fun s1 h => by rw [wi_na _ _ _ _ (by decide)]; exact h.2.2.1
  rcases ev_or x 6 (by decide) with ⟨e, he, rfl⟩ | hx
  · cases ht : tl g e with
    | false =>
      refine S_m0 (r := -2) (WO := wpX8_drop 20 (nI e)) (WM := wpX12_drops (nI e)) A C M kk (by decide) (fun s1 R1 Q k => c_drop (by decide) O R1 he (fun _ => k) (fun h => by rw [ht] at h; cases h)) (fun s1 M1 Q k => ?_)
      unfold wpX12_drops
      rw [m_isEvent he]
      refine ⟨fun _ => ?_, fun h => absurd h (by decide)⟩
      rw [m_isTold (M0 s1 M1) he, ht]
      exact ⟨fun h => absurd rfl h, fun _ => qM_th M1 k⟩
    | true =>
      have hc := cnt_le 6 (tl (drG g e))
      refine S_m1 (r := nI (cnt 6 (tl (drG g e)))) (g' := drG g e) (WO := wpX8_drop 20 (nI e)) (WM := wpX12_drops (nI e)) A C M kk (nI_nn (by omega)) (ok_dr A.2.2.1 he) (fun s1 R1 Q k => c_drop (by decide) O R1 he (fun h => by rw [ht] at h; cases h) (fun _ s' f R' => k s' f R')) (fun s1 M1 Q k => ?_)
      unfold wpX12_drops
      rw [m_isEvent he]
      refine ⟨fun _ => ?_, fun h => absurd h (by decide)⟩
      rw [m_isTold (M0 s1 M1) he, ht]
      refine ⟨fun _ => ?_, fun h => absurd h (by decide)⟩
      refine m_chg A M1 (fun s2 f2 h2 P2 R2 => ?_)
      refine m_goDrop h2 he (fun s3 f3 h3 => ?_)
      refine m_toldMany h3 ?_
      exact k s3 (f2.tr (f3.mono (by decide) (by decide))) h3 (P2.cg (f3.2.1 26 (by decide)) (f3.1 187 (by decide) (by decide))) (R2.cg (f3.2.1 4 (by decide)) (f3.2.2.1 180 (by decide)))
  · refine S_m0 (r := -1) (WO := wpX8_drop 20 x) (WM := wpX12_drops x) A C M kk (by decide) (fun s1 R1 Q k => c_drop0 hx k) (fun s1 M1 Q k => ?_)
    unfold wpX12_drops
    rw [m_isEvent0 hx]
    exact ⟨fun h => absurd rfl h, fun _ => qM_th M1 k⟩
end MUT
